/-! A SIMPLE MACHINE over the kit's rows: the world of one object and all that it holds as two functions
(ints and references by cell and place), one judgement zK a method's instruction, whose last argument is a pure
Lean term that says what comes out. The rows here are proved once; each method is walked by them. -/
def zTT : List Cond := lw_tbl.filter goodWord
theorem zTT_in {i : Nat} {w : Cond} (h : lw_tbl[i]? = some w) (hg : goodWord w = true) : w ∈ zTT := List.mem_filter.mpr ⟨List.mem_of_getElem? h, hg⟩
theorem zTT_good {w : Cond} (h : w ∈ zTT) : (w.onTables && w.keeps) = true ∨ ∃ ty, w = .arrayClass ty := good_of_word (List.mem_filter.mp h).2
theorem zGood {w : Cond} (h : w ∈ zTT) : GoodIn zTT (w :: zTT) := fun v hv => by
  rcases List.mem_cons.mp hv with rfl | hv
  · exact ⟨h, zTT_good h⟩
  · exact ⟨hv, zTT_good hv⟩
/-- ints and references: by cell, by place -/
abbrev zS : Type := (Nat → Nat → Int32) × (Nat → Nat → Nat)
/-- a method: its name, its bytes, its locals, what it returns, its instructions -/
abbrev zM : Type := MethodName × ByteArray × Nat × Option FieldType × List (Nat × Instr × Nat)
/-- launch; classes; addresses of the cells; array classes; String constants and their bytes -/
abbrev zX : Type := Launch × va_G × (Nat → Nat) × (Nat → ClassId) × (Nat → Nat) × (Nat → Nat)
/-- how many cells; of each its kind: (class, 0), or (100 ints, 101 bytes, 103 pages; length) -/
abbrev zW : Type := Nat × (Nat → Nat × Nat)
def za (X : zX) (k : Nat) : Nat := if k < 1000 then X.2.2.1 k else X.2.2.2.2.1 (k - 1000)
def zv (X : zX) : Value → Value
  | .ref k => .ref (za X k)
  | v => v
theorem zv_cat (X : zX) (v : Value) : (zv X v).category = v.category := by cases v <;> rfl
def zfs (X : zX) (σ : zS) (a ci : Nat) : List Value := (zf ci).mapIdx (fun k b => if b = true then Value.ref (za X (σ.2 a k)) else .int (σ.1 a k))
def zE (X : zX) (σ : zS) (a : Nat) (g : Nat × Nat) : va_E :=
  if g.1 < 100 then .inr (g.1, zfs X σ a g.1)
  else if g.1 = 103 then .inl (X.2.2.2.1 3, g.2, .inr (.inr (.inr (.inr (fun j => some (za X (σ.2 a j)))))))
  else .inl (X.2.2.2.1 (g.1 - 100), g.2, .inl (fun j => σ.1 a j))
def zw (X : zX) (w : zW) (σ : zS) : va_W := (List.range w.1).map (fun a => (za X a, zE X σ a (w.2 a)))
def zt (X : zX) : List (ClassId × FieldType) := [(X.2.2.2.1 0, .int), (X.2.2.2.1 1, .byte), (X.2.2.2.1 3, .object "PostScripts$Page")]
def zA (X : zX) (w : zW) : Nat → Prop := fun q => ∃ a, a < w.1 ∧ q = za X a
def zOK (X : zX) (w : zW) : Prop := (∀ a b, a < w.1 → b < w.1 → za X a = za X b → a = b) ∧ (∀ a, w.1 ≤ a → w.2 a = (999, 0)) ∧ w.1 ≤ 1000
/-- an int, a reference put -/
def zpi (σ : zS) (a k : Nat) (v : Int32) : zS := (fun b j => if b = a ∧ j = k then v else σ.1 b j, σ.2)
def zpr (σ : zS) (a k : Nat) (v : Nat) : zS := (σ.1, fun b j => if b = a ∧ j = k then v else σ.2 b j)
theorem zw_get {X : zX} {w : zW} {σ : zS} {a : Nat} (h : a < w.1) : (zw X w σ)[a]? = some (za X a, zE X σ a (w.2 a)) := by
  simp [zw, h]
theorem zOK.lt {X : zX} {w : zW} (h : zOK X w) {a c n : Nat} (hg : w.2 a = (c, n)) (hc : c ≠ 999) : a < w.1 := by
  rcases Nat.lt_or_ge a w.1 with q | q
  · exact q
  · rw [h.2.1 a q] at hg
    cases hg
    exact absurd rfl hc
theorem zw_D {X : zX} {w : zW} {σ : zS} (h : zOK X w) : va_D (zA X w) (zw X w σ) := by
  have key : ∀ (i : Nat) (p : Nat × va_E), (zw X w σ)[i]? = some p → i < w.1 ∧ p.1 = za X i := by
    intro i p hp
    have hi : i < w.1 := by
      have := (List.getElem?_eq_some_iff.mp hp).1
      simpa [zw] using this
    rw [zw_get hi] at hp
    cases hp
    exact ⟨hi, rfl⟩
  refine ⟨fun i j p q hp hq e => ?_, fun k q hq => ?_⟩
  · obtain ⟨h1, h2⟩ := key i p hp
    obtain ⟨h3, h4⟩ := key j q hq
    exact h.1 i j h1 h3 (by rw [← h2, ← h4, e])
  · obtain ⟨h1, h2⟩ := key k q hq
    exact ⟨k, h1, h2⟩
theorem zE_ne {X : zX} {σ τ : zS} {b : Nat} {g : Nat × Nat} (h1 : ∀ j, σ.1 b j = τ.1 b j) (h2 : ∀ j, σ.2 b j = τ.2 b j) : zE X σ b g = zE X τ b g := by
  simp only [zE, zfs, h1, h2]
theorem zw_set {X : zX} {w : zW} {σ τ : zS} {a : Nat} {e : va_E} (ha : a < w.1) (he : e = zE X τ a (w.2 a)) (h1 : ∀ b, b ≠ a → ∀ j, τ.1 b j = σ.1 b j) (h2 : ∀ b, b ≠ a → ∀ j, τ.2 b j = σ.2 b j) : (zw X w σ).set a (za X a, e) = zw X w τ := by
  apply List.ext_getElem?
  intro i
  rw [List.getElem?_set]
  by_cases hi : a = i
  · subst hi
    have : a < (zw X w σ).length := by simpa [zw] using ha
    rw [if_pos rfl, if_pos this, zw_get ha, he]
  · rw [if_neg hi]
    by_cases hl : i < w.1
    · rw [zw_get hl, zw_get hl, zE_ne (fun j => h1 i (fun e => hi e.symm) j) (fun j => h2 i (fun e => hi e.symm) j)]
    · have e1 : ∀ τ' : zS, (zw X w τ')[i]? = none := fun τ' => by simp [zw]; omega
      rw [e1, e1]
theorem zfs_get {X : zX} {σ : zS} {a ci k : Nat} {b : Bool} (h : (zf ci)[k]? = some b) : (zfs X σ a ci)[k]? = some (if b = true then Value.ref (za X (σ.2 a k)) else .int (σ.1 a k)) := by
  simp [zfs, h]
theorem zfs_setI {X : zX} {σ : zS} {a ci k : Nat} {v : Int32} (h : (zf ci)[k]? = some false) : (zfs X σ a ci).set k (.int v) = zfs X (zpi σ a k v) a ci := by
  apply List.ext_getElem?
  intro i
  rw [List.getElem?_set]
  have hk : k < (zf ci).length := (List.getElem?_eq_some_iff.mp h).1
  by_cases hi : k = i
  · subst hi
    have : k < (zfs X σ a ci).length := by simpa [zfs] using hk
    rw [if_pos rfl, if_pos this, zfs_get h]
    simp [zpi]
  · rw [if_neg hi]
    simp only [zfs, List.getElem?_mapIdx, zpi]
    congr 1
    funext b
    have : ¬ (i = k) := fun e => hi e.symm
    simp [this]
theorem zfs_setR {X : zX} {σ : zS} {a ci k : Nat} {v : Nat} (h : (zf ci)[k]? = some true) : (zfs X σ a ci).set k (.ref (za X v)) = zfs X (zpr σ a k v) a ci := by
  apply List.ext_getElem?
  intro i
  rw [List.getElem?_set]
  have hk : k < (zf ci).length := (List.getElem?_eq_some_iff.mp h).1
  by_cases hi : k = i
  · subst hi
    have : k < (zfs X σ a ci).length := by simpa [zfs] using hk
    rw [if_pos rfl, if_pos this, zfs_get h]
    simp [zpr]
  · rw [if_neg hi]
    simp only [zfs, List.getElem?_mapIdx, zpr]
    congr 1
    funext b
    have : ¬ (i = k) := fun e => hi e.symm
    simp [this]
