section ZR
variable {X : zX} {w : zW} {R : Room} {M : zM} {ρ : Type} {Z : ρ → zS → zZt} {pc : Nat} {L : List (Option Value)} {st : List Value} {σ : zS} {k : Option (ρ × zS)}
theorem z_ck {c : Prop} [Decidable c] (h : c → zK X w R M Z pc L st σ k) : zK X w R M Z pc L st σ (zck c k) := by
  intro r σ' hk
  unfold zck at hk
  by_cases hc : c
  · rw [if_pos hc] at hk
    exact h hc r σ' hk
  · rw [if_neg hc] at hk
    cases hk
theorem z_br {c : Prop} [Decidable c] {k1 k2 : Option (ρ × zS)} (h1 : c → zK X w R M Z pc L st σ k1) (h2 : ¬ c → zK X w R M Z pc L st σ k2) : zK X w R M Z pc L st σ (zbr c k1 k2) := by
  intro r σ' hk
  unfold zbr at hk
  by_cases hc : c
  · rw [if_pos hc] at hk
    exact h1 hc r σ' hk
  · rw [if_neg hc] at hk
    exact h2 hc r σ' hk
theorem z_none : zK X w R M Z pc L st σ none := fun r σ' hk => by cases hk
/-- fewer locals -/
def zle (L' L : List (Option Value)) : Prop := L'.length = L.length ∧ ∀ (i : Nat) (v : Value), L'[i]? = some (some v) → L[i]? = some (some v)
theorem zle_0 : zle [] [] := ⟨rfl, fun i v h => by simp at h⟩
theorem zle_n {l : Option Value} {L' L : List (Option Value)} (h : zle L' L) : zle (none :: L') (l :: L) := ⟨by simp [h.1], fun i v hi => by
  cases i with
  | zero => simp at hi
  | succ i => exact h.2 i v (by simpa using hi)⟩
theorem zle_e {l : Option Value} {L' L : List (Option Value)} (h : zle L' L) : zle (l :: L') (l :: L) := ⟨by simp [h.1], fun i v hi => by
  cases i with
  | zero => simpa using hi
  | succ i => exact h.2 i v (by simpa using hi)⟩
theorem zl_map {L : List (Option Value)} {i : Nat} {v : Value} (h : (L.map (Option.map (zv X)))[i]? = some (some v)) : ∃ u, L[i]? = some (some u) ∧ v = zv X u := by
  rw [List.getElem?_map] at h
  cases hL : L[i]? with
  | none => rw [hL] at h; cases h
  | some l =>
    cases l with
    | none => rw [hL] at h; cases h
    | some u => rw [hL] at h; cases h; exact ⟨u, rfl, rfl⟩
theorem zl_map' {L : List (Option Value)} {i : Nat} {u : Value} (h : L[i]? = some (some u)) : (L.map (Option.map (zv X)))[i]? = some (some (zv X u)) := by
  rw [List.getElem?_map, h]; rfl
theorem z_wk {L' : List (Option Value)} (hL : zle L' L) (h : zK X w R M Z pc L' st σ k) : zK X w R M Z pc L st σ k := by
  intro r σ' hk p e s m args below meth c C H locs ls hP hS hl
  refine h r σ' hk p e s m args below meth c C H locs ls hP hS ⟨by rw [hl.1]; simp [hL.1], hl.2.1, fun i v hi => ?_⟩
  obtain ⟨u, h1, rfl⟩ := zl_map hi
  exact hl.2.2 i _ (zl_map' (hL.2 i u h1))
theorem zl_at {ls : Array Slot} (hl : zl ls (L.map (Option.map (zv X)))) {i : Nat} {v : Value} (h : L[i]? = some (some v)) : ls[i]? = some (.val (zv X v)) := hl.2.2 i _ (zl_map' h)
def zprs (L : List (Option Value)) : List (Nat × Value) := (List.range L.length).filterMap (fun i => match L[i]? with | some (some v) => some (i, v) | _ => none)
theorem zprs_mem {L : List (Option Value)} {i : Nat} {v : Value} : (i, v) ∈ zprs L ↔ L[i]? = some (some v) := by
  unfold zprs
  rw [List.mem_filterMap]
  constructor
  · rintro ⟨j, hj, h⟩
    split at h
    · next u hu => cases h; exact hu
    · cases h
  · intro h
    refine ⟨i, List.mem_range.mpr (List.getElem?_eq_some_iff.mp h).1, ?_⟩
    rw [h]
theorem zl_has {ls : Array Slot} {L : List (Option Value)} (h : zl ls L) : lv_has ls L.length (zprs L) := ⟨h.1, h.2.1, fun q hq => h.2.2 q.1 q.2 (zprs_mem.mp hq)⟩
theorem zl_of {ls : Array Slot} {L : List (Option Value)} {n : Nat} {l : List (Nat × Value)} (h : lv_has ls n l) (hn : n = L.length) (hm : ∀ i v, L[i]? = some (some v) → (i, v) ∈ l) : zl ls L := ⟨by rw [← hn]; exact h.1, h.2.1, fun i v hi => h.2.2 (i, v) (hm i v hi)⟩
/-- not a long -/
def zn : Option Value → Bool
  | some (.long _) => false
  | some (.double _) => false
  | _ => true
theorem zn_cat {v : Value} (h : zn (some v) = true) : (v.category == 2) = false := by cases v <;> first | rfl | (cases h)
def zn1 (L : List (Option Value)) (j : Nat) : Bool := match j with
  | 0 => true
  | i + 1 => zn (L.getD i none)
theorem zset1 {ls : Array Slot} {j : Nat} {v : Value} (hp : zn1 L j = true) (h : lv_has ls (L.map (Option.map (zv X))).length ((j, zv X v) :: (zprs (L.map (Option.map (zv X)))).filter (fun q => !(q.1 == j) && !(q.1 + 1 == j && q.2.category == 2)))) : zl ls ((L.set j (some v)).map (Option.map (zv X))) := by
  refine zl_of h (by simp) (fun i u hi => ?_)
  obtain ⟨u, h1, rfl⟩ := zl_map hi
  rw [List.getElem?_set] at h1
  by_cases hj : j = i
  · subst hj
    rw [if_pos rfl] at h1
    split at h1
    · cases h1; exact List.mem_cons_self
    · cases h1
  · rw [if_neg hj] at h1
    refine List.mem_cons_of_mem _ (List.mem_filter.mpr ⟨zprs_mem.mpr (zl_map' h1), ?_⟩)
    have e1 : (i == j) = false := by simpa using fun e => hj e.symm
    by_cases hi2 : i + 1 = j
    · subst hi2
      have : zn (some u) = true := by
        have h2 : zn1 L (i + 1) = zn (L.getD i none) := rfl
        rw [h2] at hp
        rw [List.getD_eq_getElem?_getD, h1] at hp
        exact hp
      simp only [zv_cat, zn_cat this]
      simp [e1]
    · have e2 : (i + 1 == j) = false := by simpa using hi2
      simp [e1, e2]
theorem zset2 {ls : Array Slot} {j : Nat} {v : Value} (hp : zn1 L j = true) (h : lv_has ls (L.map (Option.map (zv X))).length ((j, zv X v) :: (zprs (L.map (Option.map (zv X)))).filter (fun q => !(q.1 == j) && (!(q.1 == j + 1) && !(q.1 + 1 == j && q.2.category == 2))))) : zl ls (((L.set j (some v)).set (j + 1) none).map (Option.map (zv X))) := by
  refine zl_of h (by simp) (fun i u hi => ?_)
  obtain ⟨u, h1, rfl⟩ := zl_map hi
  rw [List.getElem?_set] at h1
  by_cases hj1 : j + 1 = i
  · rw [if_pos hj1] at h1
    split at h1 <;> cases h1
  · rw [if_neg hj1, List.getElem?_set] at h1
    by_cases hj : j = i
    · subst hj
      rw [if_pos rfl] at h1
      split at h1
      · cases h1; exact List.mem_cons_self
      · cases h1
    · rw [if_neg hj] at h1
      refine List.mem_cons_of_mem _ (List.mem_filter.mpr ⟨zprs_mem.mpr (zl_map' h1), ?_⟩)
      have e1 : (i == j) = false := by simpa using fun e => hj e.symm
      have e3 : (i == j + 1) = false := by simpa using fun e => hj1 e.symm
      by_cases hi2 : i + 1 = j
      · subst hi2
        have : zn (some u) = true := by
          have h2 : zn1 L (i + 1) = zn (L.getD i none) := rfl
          rw [h2] at hp
          rw [List.getD_eq_getElem?_getD, h1] at hp
          exact hp
        simp only [zv_cat, zn_cat this]
        simp [e1]
        first | done | omega
      · have e2 : (i + 1 == j) = false := by simpa using hi2
        simp [e1, e2, e3]

theorem z_iconst (i n : Nat) {a : Int} {v : Int32} (hd : M.2.2.2.2[i]? = some (pc, .iconst a, 1)) (hn : pc + 1 = n) (hv : Int32.ofInt a = v) (h : zK X w R M Z n L (.int v :: st) σ k) : zK X w R M Z pc L st σ k := by
  subst hn
  intro r σ' hk p e s m args below meth c C H locs ls hP hS hl
  exact lv_iconst C.hx C.hb (C.dec hd) hv (h r σ' hk p e s m args below meth c C H locs ls hP hS hl)
theorem z_bipush (i n : Nat) {a : Int} {v : Int32} (hd : M.2.2.2.2[i]? = some (pc, .bipush a, 2)) (hn : pc + 2 = n) (hv : (Int8.ofInt a).toInt32 = v) (h : zK X w R M Z n L (.int v :: st) σ k) : zK X w R M Z pc L st σ k := by
  subst hn
  intro r σ' hk p e s m args below meth c C H locs ls hP hS hl
  exact lv_bipush C.hx C.hb (C.dec hd) hv (h r σ' hk p e s m args below meth c C H locs ls hP hS hl)
theorem z_sipush (i n : Nat) {a : Int} {v : Int32} (hd : M.2.2.2.2[i]? = some (pc, .sipush a, 3)) (hn : pc + 3 = n) (hv : (Int16.ofInt a).toInt32 = v) (h : zK X w R M Z n L (.int v :: st) σ k) : zK X w R M Z pc L st σ k := by
  subst hn
  intro r σ' hk p e s m args below meth c C H locs ls hP hS hl
  exact lv_sipush C.hx C.hb (C.dec hd) hv (h r σ' hk p e s m args below meth c C H locs ls hP hS hl)
theorem z_lconst (i n : Nat) {a : Fin 2} {v : Int64} (hd : M.2.2.2.2[i]? = some (pc, .lconst a, 1)) (hn : pc + 1 = n) (hv : Int64.ofNat (a : Nat) = v) (h : zK X w R M Z n L (.long v :: st) σ k) : zK X w R M Z pc L st σ k := by
  subst hn
  intro r σ' hk p e s m args below meth c C H locs ls hP hS hl
  exact lv_lconst C.hx C.hb (C.dec hd) hv (h r σ' hk p e s m args below meth c C H locs ls hP hS hl)
theorem z_ldcI (i n : Nat) {a : Nat} {v : Int32} (hd : M.2.2.2.2[i]? = some (pc, .ldc a, 2)) (hn : pc + 2 = n) (hv : Cond.constant M.1.cls a v ∈ zTT) (h : zK X w R M Z n L (.int v :: st) σ k) : zK X w R M Z pc L st σ k := by
  subst hn
  intro r σ' hk p e s m args below meth c C H locs ls hP hS hl
  exact lv_ldc C.hx C.hb C.hown (C.hts _ hv) (C.dec hd) (h r σ' hk p e s m args below meth c C H locs ls hP hS hl)
theorem z_ldcwI (i n : Nat) {a : Nat} {v : Int32} (hd : M.2.2.2.2[i]? = some (pc, .ldc_w a, 3)) (hn : pc + 3 = n) (hv : Cond.constant M.1.cls a v ∈ zTT) (h : zK X w R M Z n L (.int v :: st) σ k) : zK X w R M Z pc L st σ k := by
  subst hn
  intro r σ' hk p e s m args below meth c C H locs ls hP hS hl
  exact lv_ldcw C.hx C.hb C.hown (C.hts _ hv) (C.dec hd) (h r σ' hk p e s m args below meth c C H locs ls hP hS hl)
theorem z_ldc2 (i n : Nat) {a : Nat} {v : Int64} (hd : M.2.2.2.2[i]? = some (pc, .ldc2_w a, 3)) (hn : pc + 3 = n) (hv : Cond.constantLong M.1.cls a v ∈ zTT) (h : zK X w R M Z n L (.long v :: st) σ k) : zK X w R M Z pc L st σ k := by
  subst hn
  intro r σ' hk p e s m args below meth c C H locs ls hP hS hl
  exact lv_ldc2 C.hx C.hb C.hown (C.hts _ hv) (C.dec hd) (h r σ' hk p e s m args below meth c C H locs ls hP hS hl)
theorem z_ldcS (i n j : Nat) {a : Nat} {tx : String} (hd : M.2.2.2.2[i]? = some (pc, .ldc a, 2)) (hn : pc + 2 = n) (hv : (M.1.cls, a, tx, j) ∈ zstr) (h : zK X w R M Z n L (.ref (1000 + j) :: st) σ k) : zK X w R M Z pc L st σ k := by
  subst hn
  intro r σ' hk p e s m args below meth c C H locs ls hP hS hl
  have e1 : zv X (.ref (1000 + j)) = .ref (X.2.2.2.2.1 j) := by
    show Value.ref (za X (1000 + j)) = _
    unfold za
    rw [if_neg (by omega), Nat.add_sub_cancel_left]
  have h1 := h r σ' hk p e s m args below meth c C H locs ls hP hS hl
  rw [List.map_cons, e1] at h1
  exact va_ldcS C.hx C.hb C.hown (C.hV.2.1 _ hv) (C.dec hd) h1
theorem z_iadd (i n : Nat) {x y : Int32} (hd : M.2.2.2.2[i]? = some (pc, .iadd, 1)) (hn : pc + 1 = n) (h : zK X w R M Z n L (.int (x + y) :: st) σ k) : zK X w R M Z pc L (.int y :: .int x :: st) σ k := by
  subst hn
  intro r σ' hk p e s m args below meth c C H locs ls hP hS hl
  exact lv_iadd C.hx C.hb (C.dec hd) (h r σ' hk p e s m args below meth c C H locs ls hP hS hl)
theorem z_isub (i n : Nat) {x y : Int32} (hd : M.2.2.2.2[i]? = some (pc, .isub, 1)) (hn : pc + 1 = n) (h : zK X w R M Z n L (.int (x - y) :: st) σ k) : zK X w R M Z pc L (.int y :: .int x :: st) σ k := by
  subst hn
  intro r σ' hk p e s m args below meth c C H locs ls hP hS hl
  exact lv_isub C.hx C.hb (C.dec hd) (h r σ' hk p e s m args below meth c C H locs ls hP hS hl)
theorem z_imul (i n : Nat) {x y : Int32} (hd : M.2.2.2.2[i]? = some (pc, .imul, 1)) (hn : pc + 1 = n) (h : zK X w R M Z n L (.int (x * y) :: st) σ k) : zK X w R M Z pc L (.int y :: .int x :: st) σ k := by
  subst hn
  intro r σ' hk p e s m args below meth c C H locs ls hP hS hl
  exact lv_imul C.hx C.hb (C.dec hd) (h r σ' hk p e s m args below meth c C H locs ls hP hS hl)
theorem z_iand (i n : Nat) {x y : Int32} (hd : M.2.2.2.2[i]? = some (pc, .iand, 1)) (hn : pc + 1 = n) (h : zK X w R M Z n L (.int (x &&& y) :: st) σ k) : zK X w R M Z pc L (.int y :: .int x :: st) σ k := by
  subst hn
  intro r σ' hk p e s m args below meth c C H locs ls hP hS hl
  exact lv_iand C.hx C.hb (C.dec hd) (h r σ' hk p e s m args below meth c C H locs ls hP hS hl)
theorem z_ior (i n : Nat) {x y : Int32} (hd : M.2.2.2.2[i]? = some (pc, .ior, 1)) (hn : pc + 1 = n) (h : zK X w R M Z n L (.int (x ||| y) :: st) σ k) : zK X w R M Z pc L (.int y :: .int x :: st) σ k := by
  subst hn
  intro r σ' hk p e s m args below meth c C H locs ls hP hS hl
  exact lv_ior C.hx C.hb (C.dec hd) (h r σ' hk p e s m args below meth c C H locs ls hP hS hl)
theorem z_ixor (i n : Nat) {x y : Int32} (hd : M.2.2.2.2[i]? = some (pc, .ixor, 1)) (hn : pc + 1 = n) (h : zK X w R M Z n L (.int (x ^^^ y) :: st) σ k) : zK X w R M Z pc L (.int y :: .int x :: st) σ k := by
  subst hn
  intro r σ' hk p e s m args below meth c C H locs ls hP hS hl
  exact lv_ixor C.hx C.hb (C.dec hd) (h r σ' hk p e s m args below meth c C H locs ls hP hS hl)
theorem z_ishl (i n : Nat) {x y : Int32} (hd : M.2.2.2.2[i]? = some (pc, .ishl, 1)) (hn : pc + 1 = n) (h : zK X w R M Z n L (.int (x <<< (y &&& 31)) :: st) σ k) : zK X w R M Z pc L (.int y :: .int x :: st) σ k := by
  subst hn
  intro r σ' hk p e s m args below meth c C H locs ls hP hS hl
  exact lv_ishl C.hx C.hb (C.dec hd) (h r σ' hk p e s m args below meth c C H locs ls hP hS hl)
theorem z_ishr (i n : Nat) {x y : Int32} (hd : M.2.2.2.2[i]? = some (pc, .ishr, 1)) (hn : pc + 1 = n) (h : zK X w R M Z n L (.int (x >>> (y &&& 31)) :: st) σ k) : zK X w R M Z pc L (.int y :: .int x :: st) σ k := by
  subst hn
  intro r σ' hk p e s m args below meth c C H locs ls hP hS hl
  exact lv_ishr C.hx C.hb (C.dec hd) (h r σ' hk p e s m args below meth c C H locs ls hP hS hl)
theorem z_iushr (i n : Nat) {x y : Int32} (hd : M.2.2.2.2[i]? = some (pc, .iushr, 1)) (hn : pc + 1 = n) (h : zK X w R M Z n L (.int ((x.toUInt32 >>> (y.toUInt32 &&& Int32.toUInt32 31)).toInt32) :: st) σ k) : zK X w R M Z pc L (.int y :: .int x :: st) σ k := by
  subst hn
  intro r σ' hk p e s m args below meth c C H locs ls hP hS hl
  exact lv_iushr C.hx C.hb (C.dec hd) rfl (h r σ' hk p e s m args below meth c C H locs ls hP hS hl)
theorem z_idiv (i n : Nat) {x y : Int32} (hd : M.2.2.2.2[i]? = some (pc, .idiv, 1)) (hn : pc + 1 = n) (h0 : ¬ y = 0) (h : zK X w R M Z n L (.int (x / y) :: st) σ k) : zK X w R M Z pc L (.int y :: .int x :: st) σ k := by
  subst hn
  intro r σ' hk p e s m args below meth c C H locs ls hP hS hl
  exact lv_idiv C.hx C.hb (C.dec hd) h0 (h r σ' hk p e s m args below meth c C H locs ls hP hS hl)
theorem z_irem (i n : Nat) {x y : Int32} (hd : M.2.2.2.2[i]? = some (pc, .irem, 1)) (hn : pc + 1 = n) (h0 : ¬ y = 0) (h : zK X w R M Z n L (.int (x - x / y * y) :: st) σ k) : zK X w R M Z pc L (.int y :: .int x :: st) σ k := by
  subst hn
  intro r σ' hk p e s m args below meth c C H locs ls hP hS hl
  exact lv_irem C.hx C.hb (C.dec hd) h0 (h r σ' hk p e s m args below meth c C H locs ls hP hS hl)
theorem z_ladd (i n : Nat) {x y : Int64} (hd : M.2.2.2.2[i]? = some (pc, .ladd, 1)) (hn : pc + 1 = n) (h : zK X w R M Z n L (.long (x + y) :: st) σ k) : zK X w R M Z pc L (.long y :: .long x :: st) σ k := by
  subst hn
  intro r σ' hk p e s m args below meth c C H locs ls hP hS hl
  exact lv_ladd C.hx C.hb (C.dec hd) (h r σ' hk p e s m args below meth c C H locs ls hP hS hl)
theorem z_lmul (i n : Nat) {x y : Int64} (hd : M.2.2.2.2[i]? = some (pc, .lmul, 1)) (hn : pc + 1 = n) (h : zK X w R M Z n L (.long (x * y) :: st) σ k) : zK X w R M Z pc L (.long y :: .long x :: st) σ k := by
  subst hn
  intro r σ' hk p e s m args below meth c C H locs ls hP hS hl
  exact lv_lmul C.hx C.hb (C.dec hd) (h r σ' hk p e s m args below meth c C H locs ls hP hS hl)
theorem z_ldiv (i n : Nat) {x y : Int64} (hd : M.2.2.2.2[i]? = some (pc, .ldiv, 1)) (hn : pc + 1 = n) (h0 : ¬ y = 0) (h : zK X w R M Z n L (.long (x / y) :: st) σ k) : zK X w R M Z pc L (.long y :: .long x :: st) σ k := by
  subst hn
  intro r σ' hk p e s m args below meth c C H locs ls hP hS hl
  exact lv_ldiv C.hx C.hb (C.dec hd) h0 (h r σ' hk p e s m args below meth c C H locs ls hP hS hl)
theorem z_lrem (i n : Nat) {x y : Int64} (hd : M.2.2.2.2[i]? = some (pc, .lrem, 1)) (hn : pc + 1 = n) (h0 : ¬ y = 0) (h : zK X w R M Z n L (.long (x - x / y * y) :: st) σ k) : zK X w R M Z pc L (.long y :: .long x :: st) σ k := by
  subst hn
  intro r σ' hk p e s m args below meth c C H locs ls hP hS hl
  exact lv_lrem C.hx C.hb (C.dec hd) h0 (h r σ' hk p e s m args below meth c C H locs ls hP hS hl)
theorem z_lcmp (i n : Nat) {x y : Int64} (hd : M.2.2.2.2[i]? = some (pc, .lcmp, 1)) (hn : pc + 1 = n) (h : zK X w R M Z n L (.int (lg_cmp x y) :: st) σ k) : zK X w R M Z pc L (.long y :: .long x :: st) σ k := by
  subst hn
  intro r σ' hk p e s m args below meth c C H locs ls hP hS hl
  exact W.lcmp C.hx C.hb (C.dec hd) (h r σ' hk p e s m args below meth c C H locs ls hP hS hl)
theorem z_i2l (i n : Nat) {x : Int32} (hd : M.2.2.2.2[i]? = some (pc, .i2l, 1)) (hn : pc + 1 = n) (h : zK X w R M Z n L (.long x.toInt64 :: st) σ k) : zK X w R M Z pc L (.int x :: st) σ k := by
  subst hn
  intro r σ' hk p e s m args below meth c C H locs ls hP hS hl
  exact lv_i2l C.hx C.hb (C.dec hd) rfl (h r σ' hk p e s m args below meth c C H locs ls hP hS hl)
theorem z_i2b (i n : Nat) {x : Int32} (hd : M.2.2.2.2[i]? = some (pc, .i2b, 1)) (hn : pc + 1 = n) (h : zK X w R M Z n L (.int x.toInt8.toInt32 :: st) σ k) : zK X w R M Z pc L (.int x :: st) σ k := by
  subst hn
  intro r σ' hk p e s m args below meth c C H locs ls hP hS hl
  exact lv_i2b C.hx C.hb (C.dec hd) rfl (h r σ' hk p e s m args below meth c C H locs ls hP hS hl)
theorem z_dup (i n : Nat) {v : Value} (hd : M.2.2.2.2[i]? = some (pc, .dup, 1)) (hn : pc + 1 = n) (hv : v.category = 1) (h : zK X w R M Z n L (v :: v :: st) σ k) : zK X w R M Z pc L (v :: st) σ k := by
  subst hn
  intro r σ' hk p e s m args below meth c C H locs ls hP hS hl
  exact lv_dup C.hx C.hb (C.dec hd) ((zv_cat X v).trans hv) (h r σ' hk p e s m args below meth c C H locs ls hP hS hl)
theorem z_pop (i n : Nat) {v : Value} (hd : M.2.2.2.2[i]? = some (pc, .pop, 1)) (hn : pc + 1 = n) (hv : v.category = 1) (h : zK X w R M Z n L st σ k) : zK X w R M Z pc L (v :: st) σ k := by
  subst hn
  intro r σ' hk p e s m args below meth c C H locs ls hP hS hl
  exact lv_pop C.hx C.hb (C.dec hd) ((zv_cat X v).trans hv) (h r σ' hk p e s m args below meth c C H locs ls hP hS hl)
theorem z_dup2 (i n : Nat) {v u : Value} (hd : M.2.2.2.2[i]? = some (pc, .dup2, 1)) (hn : pc + 1 = n) (hv : v.category = 1) (hu : u.category = 1) (h : zK X w R M Z n L (v :: u :: v :: u :: st) σ k) : zK X w R M Z pc L (v :: u :: st) σ k := by
  subst hn
  intro r σ' hk p e s m args below meth c C H locs ls hP hS hl
  exact lv_dup2_11 C.hx C.hb (C.dec hd) ((zv_cat X v).trans hv) ((zv_cat X u).trans hu) (h r σ' hk p e s m args below meth c C H locs ls hP hS hl)
theorem z_goto (i n : Nat) {a : Int} (hd : M.2.2.2.2[i]? = some (pc, .goto a, 3)) (hn : (pc : Int) + a = (n : Int)) (h : zK X w R M Z n L st σ k) : zK X w R M Z pc L st σ k := by
  intro r σ' hk p e s m args below meth c C H locs ls hP hS hl
  exact lv_goto C.hx C.hb (C.dec hd) hn (h r σ' hk p e s m args below meth c C H locs ls hP hS hl)
theorem z_if_eq (i n t : Nat) {x : Int32} {a : Int} {k1 k2 : Option (ρ × zS)} (hd : M.2.2.2.2[i]? = some (pc, .ifCond .eq a, 3)) (hn : pc + 3 = n) (ht : (pc : Int) + a = (t : Int)) (h1 : zK X w R M Z t L st σ k1) (h2 : zK X w R M Z n L st σ k2) : zK X w R M Z pc L (.int x :: st) σ (zbr (x = 0) k1 k2) := by
  subst hn
  intro r σ' hk p e s m args below meth c C H locs ls hP hS hl
  unfold zbr at hk
  refine lv_if_eq C.hx C.hb (C.dec hd) ht (fun hc => ?_) (fun hc => ?_)
  · rw [if_pos hc] at hk
    exact h1 r σ' hk p e s m args below meth c C H locs ls hP hS hl
  · rw [if_neg hc] at hk
    exact h2 r σ' hk p e s m args below meth c C H locs ls hP hS hl
theorem z_if_ne (i n t : Nat) {x : Int32} {a : Int} {k1 k2 : Option (ρ × zS)} (hd : M.2.2.2.2[i]? = some (pc, .ifCond .ne a, 3)) (hn : pc + 3 = n) (ht : (pc : Int) + a = (t : Int)) (h1 : zK X w R M Z n L st σ k1) (h2 : zK X w R M Z t L st σ k2) : zK X w R M Z pc L (.int x :: st) σ (zbr (x = 0) k1 k2) := by
  subst hn
  intro r σ' hk p e s m args below meth c C H locs ls hP hS hl
  unfold zbr at hk
  refine lv_if_ne C.hx C.hb (C.dec hd) ht (fun hc => ?_) (fun hc => ?_)
  · rw [if_neg hc] at hk
    exact h2 r σ' hk p e s m args below meth c C H locs ls hP hS hl
  · rw [if_pos hc] at hk
    exact h1 r σ' hk p e s m args below meth c C H locs ls hP hS hl
theorem z_if_lt (i n t : Nat) {x : Int32} {a : Int} {k1 k2 : Option (ρ × zS)} (hd : M.2.2.2.2[i]? = some (pc, .ifCond .lt a, 3)) (hn : pc + 3 = n) (ht : (pc : Int) + a = (t : Int)) (h1 : zK X w R M Z t L st σ k1) (h2 : zK X w R M Z n L st σ k2) : zK X w R M Z pc L (.int x :: st) σ (zbr (x < 0) k1 k2) := by
  subst hn
  intro r σ' hk p e s m args below meth c C H locs ls hP hS hl
  unfold zbr at hk
  refine lv_if_lt C.hx C.hb (C.dec hd) ht (fun hc => ?_) (fun hc => ?_)
  · rw [if_pos hc] at hk
    exact h1 r σ' hk p e s m args below meth c C H locs ls hP hS hl
  · rw [if_neg hc] at hk
    exact h2 r σ' hk p e s m args below meth c C H locs ls hP hS hl
theorem z_if_ge (i n t : Nat) {x : Int32} {a : Int} {k1 k2 : Option (ρ × zS)} (hd : M.2.2.2.2[i]? = some (pc, .ifCond .ge a, 3)) (hn : pc + 3 = n) (ht : (pc : Int) + a = (t : Int)) (h1 : zK X w R M Z t L st σ k1) (h2 : zK X w R M Z n L st σ k2) : zK X w R M Z pc L (.int x :: st) σ (zbr (0 ≤ x) k1 k2) := by
  subst hn
  intro r σ' hk p e s m args below meth c C H locs ls hP hS hl
  unfold zbr at hk
  refine lv_if_ge C.hx C.hb (C.dec hd) ht (fun hc => ?_) (fun hc => ?_)
  · rw [if_pos hc] at hk
    exact h1 r σ' hk p e s m args below meth c C H locs ls hP hS hl
  · rw [if_neg hc] at hk
    exact h2 r σ' hk p e s m args below meth c C H locs ls hP hS hl
theorem z_if_gt (i n t : Nat) {x : Int32} {a : Int} {k1 k2 : Option (ρ × zS)} (hd : M.2.2.2.2[i]? = some (pc, .ifCond .gt a, 3)) (hn : pc + 3 = n) (ht : (pc : Int) + a = (t : Int)) (h1 : zK X w R M Z t L st σ k1) (h2 : zK X w R M Z n L st σ k2) : zK X w R M Z pc L (.int x :: st) σ (zbr (0 < x) k1 k2) := by
  subst hn
  intro r σ' hk p e s m args below meth c C H locs ls hP hS hl
  unfold zbr at hk
  refine lv_if_gt C.hx C.hb (C.dec hd) ht (fun hc => ?_) (fun hc => ?_)
  · rw [if_pos hc] at hk
    exact h1 r σ' hk p e s m args below meth c C H locs ls hP hS hl
  · rw [if_neg hc] at hk
    exact h2 r σ' hk p e s m args below meth c C H locs ls hP hS hl
theorem z_if_le (i n t : Nat) {x : Int32} {a : Int} {k1 k2 : Option (ρ × zS)} (hd : M.2.2.2.2[i]? = some (pc, .ifCond .le a, 3)) (hn : pc + 3 = n) (ht : (pc : Int) + a = (t : Int)) (h1 : zK X w R M Z t L st σ k1) (h2 : zK X w R M Z n L st σ k2) : zK X w R M Z pc L (.int x :: st) σ (zbr (x ≤ 0) k1 k2) := by
  subst hn
  intro r σ' hk p e s m args below meth c C H locs ls hP hS hl
  unfold zbr at hk
  refine lv_if_le C.hx C.hb (C.dec hd) ht (fun hc => ?_) (fun hc => ?_)
  · rw [if_pos hc] at hk
    exact h1 r σ' hk p e s m args below meth c C H locs ls hP hS hl
  · rw [if_neg hc] at hk
    exact h2 r σ' hk p e s m args below meth c C H locs ls hP hS hl
theorem z_icmp_eq (i n t : Nat) {x y : Int32} {a : Int} {k1 k2 : Option (ρ × zS)} (hd : M.2.2.2.2[i]? = some (pc, .if_icmp .eq a, 3)) (hn : pc + 3 = n) (ht : (pc : Int) + a = (t : Int)) (h1 : zK X w R M Z t L st σ k1) (h2 : zK X w R M Z n L st σ k2) : zK X w R M Z pc L (.int y :: .int x :: st) σ (zbr (x = y) k1 k2) := by
  subst hn
  intro r σ' hk p e s m args below meth c C H locs ls hP hS hl
  unfold zbr at hk
  refine lv_icmp_eq C.hx C.hb (C.dec hd) ht (fun hc => ?_) (fun hc => ?_)
  · rw [if_pos hc] at hk
    exact h1 r σ' hk p e s m args below meth c C H locs ls hP hS hl
  · rw [if_neg hc] at hk
    exact h2 r σ' hk p e s m args below meth c C H locs ls hP hS hl
theorem z_icmp_ne (i n t : Nat) {x y : Int32} {a : Int} {k1 k2 : Option (ρ × zS)} (hd : M.2.2.2.2[i]? = some (pc, .if_icmp .ne a, 3)) (hn : pc + 3 = n) (ht : (pc : Int) + a = (t : Int)) (h1 : zK X w R M Z n L st σ k1) (h2 : zK X w R M Z t L st σ k2) : zK X w R M Z pc L (.int y :: .int x :: st) σ (zbr (x = y) k1 k2) := by
  subst hn
  intro r σ' hk p e s m args below meth c C H locs ls hP hS hl
  unfold zbr at hk
  refine lv_icmp_ne C.hx C.hb (C.dec hd) ht (fun hc => ?_) (fun hc => ?_)
  · rw [if_neg hc] at hk
    exact h2 r σ' hk p e s m args below meth c C H locs ls hP hS hl
  · rw [if_pos hc] at hk
    exact h1 r σ' hk p e s m args below meth c C H locs ls hP hS hl
theorem z_icmp_lt (i n t : Nat) {x y : Int32} {a : Int} {k1 k2 : Option (ρ × zS)} (hd : M.2.2.2.2[i]? = some (pc, .if_icmp .lt a, 3)) (hn : pc + 3 = n) (ht : (pc : Int) + a = (t : Int)) (h1 : zK X w R M Z t L st σ k1) (h2 : zK X w R M Z n L st σ k2) : zK X w R M Z pc L (.int y :: .int x :: st) σ (zbr (x < y) k1 k2) := by
  subst hn
  intro r σ' hk p e s m args below meth c C H locs ls hP hS hl
  unfold zbr at hk
  refine lv_icmp_lt C.hx C.hb (C.dec hd) ht (fun hc => ?_) (fun hc => ?_)
  · rw [if_pos hc] at hk
    exact h1 r σ' hk p e s m args below meth c C H locs ls hP hS hl
  · rw [if_neg hc] at hk
    exact h2 r σ' hk p e s m args below meth c C H locs ls hP hS hl
theorem z_icmp_ge (i n t : Nat) {x y : Int32} {a : Int} {k1 k2 : Option (ρ × zS)} (hd : M.2.2.2.2[i]? = some (pc, .if_icmp .ge a, 3)) (hn : pc + 3 = n) (ht : (pc : Int) + a = (t : Int)) (h1 : zK X w R M Z t L st σ k1) (h2 : zK X w R M Z n L st σ k2) : zK X w R M Z pc L (.int y :: .int x :: st) σ (zbr (y ≤ x) k1 k2) := by
  subst hn
  intro r σ' hk p e s m args below meth c C H locs ls hP hS hl
  unfold zbr at hk
  refine lv_icmp_ge C.hx C.hb (C.dec hd) ht (fun hc => ?_) (fun hc => ?_)
  · rw [if_pos hc] at hk
    exact h1 r σ' hk p e s m args below meth c C H locs ls hP hS hl
  · rw [if_neg hc] at hk
    exact h2 r σ' hk p e s m args below meth c C H locs ls hP hS hl
theorem z_icmp_gt (i n t : Nat) {x y : Int32} {a : Int} {k1 k2 : Option (ρ × zS)} (hd : M.2.2.2.2[i]? = some (pc, .if_icmp .gt a, 3)) (hn : pc + 3 = n) (ht : (pc : Int) + a = (t : Int)) (h1 : zK X w R M Z t L st σ k1) (h2 : zK X w R M Z n L st σ k2) : zK X w R M Z pc L (.int y :: .int x :: st) σ (zbr (y < x) k1 k2) := by
  subst hn
  intro r σ' hk p e s m args below meth c C H locs ls hP hS hl
  unfold zbr at hk
  refine lv_icmp_gt C.hx C.hb (C.dec hd) ht (fun hc => ?_) (fun hc => ?_)
  · rw [if_pos hc] at hk
    exact h1 r σ' hk p e s m args below meth c C H locs ls hP hS hl
  · rw [if_neg hc] at hk
    exact h2 r σ' hk p e s m args below meth c C H locs ls hP hS hl
theorem z_icmp_le (i n t : Nat) {x y : Int32} {a : Int} {k1 k2 : Option (ρ × zS)} (hd : M.2.2.2.2[i]? = some (pc, .if_icmp .le a, 3)) (hn : pc + 3 = n) (ht : (pc : Int) + a = (t : Int)) (h1 : zK X w R M Z t L st σ k1) (h2 : zK X w R M Z n L st σ k2) : zK X w R M Z pc L (.int y :: .int x :: st) σ (zbr (x ≤ y) k1 k2) := by
  subst hn
  intro r σ' hk p e s m args below meth c C H locs ls hP hS hl
  unfold zbr at hk
  refine lv_icmp_le C.hx C.hb (C.dec hd) ht (fun hc => ?_) (fun hc => ?_)
  · rw [if_pos hc] at hk
    exact h1 r σ' hk p e s m args below meth c C H locs ls hP hS hl
  · rw [if_neg hc] at hk
    exact h2 r σ' hk p e s m args below meth c C H locs ls hP hS hl
theorem z_tabIn (i t : Nat) {x : Int32} {a lo hi : Int} {offs : Array Int} {ln : Nat} {off : Int} (hd : M.2.2.2.2[i]? = some (pc, .tableswitch a lo hi offs, ln)) {v : Int32} (hx : x = v) {z : Int} (hv : v.toInt = z) (h1 : ¬ z < lo) (h2 : ¬ hi < z) (ho : offs[(z - lo).toNat]? = some off) (ht : (pc : Int) + off = (t : Int)) (h : zK X w R M Z t L st σ k) : zK X w R M Z pc L (.int x :: st) σ k := by
  subst hx; subst hv
  intro r σ' hk p e s m args below meth c C H locs ls hP hS hl
  exact lv_tableIn C.hx C.hb (C.dec hd) h1 h2 ho ht (h r σ' hk p e s m args below meth c C H locs ls hP hS hl)
theorem z_tabOut (i t : Nat) {x : Int32} {a lo hi : Int} {offs : Array Int} {ln : Nat} (hd : M.2.2.2.2[i]? = some (pc, .tableswitch a lo hi offs, ln)) (hx : x.toInt < lo ∨ hi < x.toInt) (ht : (pc : Int) + a = (t : Int)) (h : zK X w R M Z t L st σ k) : zK X w R M Z pc L (.int x :: st) σ k := by
  intro r σ' hk p e s m args below meth c C H locs ls hP hS hl
  exact lv_tableOut C.hx C.hb (C.dec hd) hx ht (h r σ' hk p e s m args below meth c C H locs ls hP hS hl)
/-- an int that is none of 0 .. n-1 is outside -/
theorem z_out {x : Int32} (n : Nat) (h : ∀ j, j < n → ¬ x = nI j) (hn : n < 2 ^ 31) (hi : Int) (hh : hi = (n : Int) - 1) : x.toInt < 0 ∨ hi < x.toInt := by
  subst hh
  rcases Int.lt_or_le x.toInt 0 with q | q
  · exact Or.inl q
  · refine Or.inr ?_
    rcases Int.lt_or_le ((n : Int) - 1) x.toInt with z | z
    · exact z
    · exfalso
      refine h x.toInt.toNat (by omega) (Int32.toInt_inj.mp ?_)
      rw [nI_toInt (by omega)]
      omega
theorem z_iload0 (i n : Nat) {x : Int32} {Lr : List (Option Value)} (hd : M.2.2.2.2[i]? = some (pc, .iload_n 0, 1)) (hn : pc + 1 = n) (h : zK X w R M Z n (some (.int x) :: Lr) (.int x :: st) σ k) : zK X w R M Z pc (some (.int x) :: Lr) st σ k := by
  subst hn
  intro r σ' hk p e s m args below meth c C H locs ls hP hS hl
  exact lv_iload_n C.hx C.hb (C.dec hd) rfl (zl_at hl (i := 0) rfl) (h r σ' hk p e s m args below meth c C H locs ls hP hS hl)
theorem z_aload0 (i n : Nat) {x : Nat} {Lr : List (Option Value)} (hd : M.2.2.2.2[i]? = some (pc, .aload_n 0, 1)) (hn : pc + 1 = n) (h : zK X w R M Z n (some (.ref x) :: Lr) (.ref x :: st) σ k) : zK X w R M Z pc (some (.ref x) :: Lr) st σ k := by
  subst hn
  intro r σ' hk p e s m args below meth c C H locs ls hP hS hl
  exact lv_aload_n C.hx C.hb (C.dec hd) rfl (zl_at hl (i := 0) rfl) (h r σ' hk p e s m args below meth c C H locs ls hP hS hl)
theorem z_lload0 (i n : Nat) {x : Int64} {Lr : List (Option Value)} (hd : M.2.2.2.2[i]? = some (pc, .lload_n 0, 1)) (hn : pc + 1 = n) (h : zK X w R M Z n (some (.long x) :: Lr) (.long x :: st) σ k) : zK X w R M Z pc (some (.long x) :: Lr) st σ k := by
  subst hn
  intro r σ' hk p e s m args below meth c C H locs ls hP hS hl
  exact lv_lload_n C.hx C.hb (C.dec hd) rfl (zl_at hl (i := 0) rfl) (h r σ' hk p e s m args below meth c C H locs ls hP hS hl)
theorem z_istore0 (i n : Nat) {v : Int32} {kf : Int32 → Option (ρ × zS)} {l0 : Option Value} {Lr : List (Option Value)} (hd : M.2.2.2.2[i]? = some (pc, .istore_n 0, 1)) (hn : pc + 1 = n) (h : ∀ x, zK X w R M Z n (some (.int x) :: Lr) st σ (kf x)) : zK X w R M Z pc (l0 :: Lr) (.int v :: st) σ (zlt v kf) := by
  subst hn
  intro r σ' hk p e s m args below meth c C H locs ls hP hS hl
  exact lv_istore_n (i := 0) C.hx C.hb (C.dec hd) rfl (zl_has hl) (by simp only [List.map_cons, List.length_cons]; omega) rfl (fun ls' hl' => h v r σ' hk p e s m args below meth c C H locs ls' hP hS (zset1 (L := l0 :: Lr) (j := 0) (v := .int v) rfl hl'))
theorem z_astore0 (i n : Nat) {v : Nat} {kf : Nat → Option (ρ × zS)} {l0 : Option Value} {Lr : List (Option Value)} (hd : M.2.2.2.2[i]? = some (pc, .astore_n 0, 1)) (hn : pc + 1 = n) (h : ∀ x, zK X w R M Z n (some (.ref x) :: Lr) st σ (kf x)) : zK X w R M Z pc (l0 :: Lr) (.ref v :: st) σ (zlt v kf) := by
  subst hn
  intro r σ' hk p e s m args below meth c C H locs ls hP hS hl
  exact lv_astore_n (i := 0) C.hx C.hb (C.dec hd) rfl (zl_has hl) (by simp only [List.map_cons, List.length_cons]; omega) rfl (fun ls' hl' => h v r σ' hk p e s m args below meth c C H locs ls' hP hS (zset1 (L := l0 :: Lr) (j := 0) (v := .ref v) rfl hl'))
theorem z_lstore0 (i n : Nat) {v : Int64} {kf : Int64 → Option (ρ × zS)} {l0 l1 : Option Value} {Lr : List (Option Value)} (hd : M.2.2.2.2[i]? = some (pc, .lstore_n 0, 1)) (hn : pc + 1 = n) (h : ∀ x, zK X w R M Z n (some (.long x) :: none :: Lr) st σ (kf x)) : zK X w R M Z pc (l0 :: l1 :: Lr) (.long v :: st) σ (zlt v kf) := by
  subst hn
  intro r σ' hk p e s m args below meth c C H locs ls hP hS hl
  exact lv_lstore_n (i := 0) C.hx C.hb (C.dec hd) rfl (zl_has hl) (by simp only [List.map_cons, List.length_cons]; omega) rfl (fun ls' hl' => h v r σ' hk p e s m args below meth c C H locs ls' hP hS (zset2 (L := l0 :: l1 :: Lr) (j := 0) (v := .long v) rfl hl'))
theorem z_iinc0 (i n : Nat) {x v : Int32} {a : Int} {kf : Int32 → Option (ρ × zS)} {Lr : List (Option Value)} (hd : M.2.2.2.2[i]? = some (pc, .iinc 0 a, 3)) (hn : pc + 3 = n) (ha : Int32.ofInt a = v) (h : ∀ y, zK X w R M Z n (some (.int y) :: Lr) st σ (kf y)) : zK X w R M Z pc (some (.int x) :: Lr) st σ (zlt (x + v) kf) := by
  subst hn; subst ha
  intro r σ' hk p e s m args below meth c C H locs ls hP hS hl
  obtain ⟨q, hq⟩ := List.getElem?_of_mem (zprs_mem.mpr (zl_map' (X := X) (L := some (.int x) :: Lr) (i := 0) (u := .int x) rfl))
  exact lv_iinc C.hx C.hb (C.dec hd) (zl_has hl) hq rfl (by simp only [List.map_cons, List.length_cons]; omega) rfl (fun ls' hl' => h (x + Int32.ofInt a) r σ' hk p e s m args below meth c C H locs ls' hP hS (zset1 (L := some (.int x) :: Lr) (j := 0) (v := .int (x + Int32.ofInt a)) rfl hl'))
theorem z_iload1 (i n : Nat) {x : Int32} {l0 : Option Value} {Lr : List (Option Value)} (hd : M.2.2.2.2[i]? = some (pc, .iload_n 1, 1)) (hn : pc + 1 = n) (h : zK X w R M Z n (l0 :: some (.int x) :: Lr) (.int x :: st) σ k) : zK X w R M Z pc (l0 :: some (.int x) :: Lr) st σ k := by
  subst hn
  intro r σ' hk p e s m args below meth c C H locs ls hP hS hl
  exact lv_iload_n C.hx C.hb (C.dec hd) rfl (zl_at hl (i := 1) rfl) (h r σ' hk p e s m args below meth c C H locs ls hP hS hl)
theorem z_aload1 (i n : Nat) {x : Nat} {l0 : Option Value} {Lr : List (Option Value)} (hd : M.2.2.2.2[i]? = some (pc, .aload_n 1, 1)) (hn : pc + 1 = n) (h : zK X w R M Z n (l0 :: some (.ref x) :: Lr) (.ref x :: st) σ k) : zK X w R M Z pc (l0 :: some (.ref x) :: Lr) st σ k := by
  subst hn
  intro r σ' hk p e s m args below meth c C H locs ls hP hS hl
  exact lv_aload_n C.hx C.hb (C.dec hd) rfl (zl_at hl (i := 1) rfl) (h r σ' hk p e s m args below meth c C H locs ls hP hS hl)
theorem z_lload1 (i n : Nat) {x : Int64} {l0 : Option Value} {Lr : List (Option Value)} (hd : M.2.2.2.2[i]? = some (pc, .lload_n 1, 1)) (hn : pc + 1 = n) (h : zK X w R M Z n (l0 :: some (.long x) :: Lr) (.long x :: st) σ k) : zK X w R M Z pc (l0 :: some (.long x) :: Lr) st σ k := by
  subst hn
  intro r σ' hk p e s m args below meth c C H locs ls hP hS hl
  exact lv_lload_n C.hx C.hb (C.dec hd) rfl (zl_at hl (i := 1) rfl) (h r σ' hk p e s m args below meth c C H locs ls hP hS hl)
theorem z_istore1 (i n : Nat) {v : Int32} {kf : Int32 → Option (ρ × zS)} {l0 l1 : Option Value} {Lr : List (Option Value)} (hd : M.2.2.2.2[i]? = some (pc, .istore_n 1, 1)) (hn : pc + 1 = n) (hp : zn l0 = true) (h : ∀ x, zK X w R M Z n (l0 :: some (.int x) :: Lr) st σ (kf x)) : zK X w R M Z pc (l0 :: l1 :: Lr) (.int v :: st) σ (zlt v kf) := by
  subst hn
  intro r σ' hk p e s m args below meth c C H locs ls hP hS hl
  exact lv_istore_n (i := 1) C.hx C.hb (C.dec hd) rfl (zl_has hl) (by simp only [List.map_cons, List.length_cons]; omega) rfl (fun ls' hl' => h v r σ' hk p e s m args below meth c C H locs ls' hP hS (zset1 (L := l0 :: l1 :: Lr) (j := 1) (v := .int v) hp hl'))
theorem z_astore1 (i n : Nat) {v : Nat} {kf : Nat → Option (ρ × zS)} {l0 l1 : Option Value} {Lr : List (Option Value)} (hd : M.2.2.2.2[i]? = some (pc, .astore_n 1, 1)) (hn : pc + 1 = n) (hp : zn l0 = true) (h : ∀ x, zK X w R M Z n (l0 :: some (.ref x) :: Lr) st σ (kf x)) : zK X w R M Z pc (l0 :: l1 :: Lr) (.ref v :: st) σ (zlt v kf) := by
  subst hn
  intro r σ' hk p e s m args below meth c C H locs ls hP hS hl
  exact lv_astore_n (i := 1) C.hx C.hb (C.dec hd) rfl (zl_has hl) (by simp only [List.map_cons, List.length_cons]; omega) rfl (fun ls' hl' => h v r σ' hk p e s m args below meth c C H locs ls' hP hS (zset1 (L := l0 :: l1 :: Lr) (j := 1) (v := .ref v) hp hl'))
theorem z_lstore1 (i n : Nat) {v : Int64} {kf : Int64 → Option (ρ × zS)} {l0 l1 l2 : Option Value} {Lr : List (Option Value)} (hd : M.2.2.2.2[i]? = some (pc, .lstore_n 1, 1)) (hn : pc + 1 = n) (hp : zn l0 = true) (h : ∀ x, zK X w R M Z n (l0 :: some (.long x) :: none :: Lr) st σ (kf x)) : zK X w R M Z pc (l0 :: l1 :: l2 :: Lr) (.long v :: st) σ (zlt v kf) := by
  subst hn
  intro r σ' hk p e s m args below meth c C H locs ls hP hS hl
  exact lv_lstore_n (i := 1) C.hx C.hb (C.dec hd) rfl (zl_has hl) (by simp only [List.map_cons, List.length_cons]; omega) rfl (fun ls' hl' => h v r σ' hk p e s m args below meth c C H locs ls' hP hS (zset2 (L := l0 :: l1 :: l2 :: Lr) (j := 1) (v := .long v) hp hl'))
theorem z_iinc1 (i n : Nat) {x v : Int32} {a : Int} {kf : Int32 → Option (ρ × zS)} {l0 : Option Value} {Lr : List (Option Value)} (hd : M.2.2.2.2[i]? = some (pc, .iinc 1 a, 3)) (hn : pc + 3 = n) (ha : Int32.ofInt a = v) (hp : zn l0 = true) (h : ∀ y, zK X w R M Z n (l0 :: some (.int y) :: Lr) st σ (kf y)) : zK X w R M Z pc (l0 :: some (.int x) :: Lr) st σ (zlt (x + v) kf) := by
  subst hn; subst ha
  intro r σ' hk p e s m args below meth c C H locs ls hP hS hl
  obtain ⟨q, hq⟩ := List.getElem?_of_mem (zprs_mem.mpr (zl_map' (X := X) (L := l0 :: some (.int x) :: Lr) (i := 1) (u := .int x) rfl))
  exact lv_iinc C.hx C.hb (C.dec hd) (zl_has hl) hq rfl (by simp only [List.map_cons, List.length_cons]; omega) rfl (fun ls' hl' => h (x + Int32.ofInt a) r σ' hk p e s m args below meth c C H locs ls' hP hS (zset1 (L := l0 :: some (.int x) :: Lr) (j := 1) (v := .int (x + Int32.ofInt a)) hp hl'))
theorem z_iload2 (i n : Nat) {x : Int32} {l0 l1 : Option Value} {Lr : List (Option Value)} (hd : M.2.2.2.2[i]? = some (pc, .iload_n 2, 1)) (hn : pc + 1 = n) (h : zK X w R M Z n (l0 :: l1 :: some (.int x) :: Lr) (.int x :: st) σ k) : zK X w R M Z pc (l0 :: l1 :: some (.int x) :: Lr) st σ k := by
  subst hn
  intro r σ' hk p e s m args below meth c C H locs ls hP hS hl
  exact lv_iload_n C.hx C.hb (C.dec hd) rfl (zl_at hl (i := 2) rfl) (h r σ' hk p e s m args below meth c C H locs ls hP hS hl)
theorem z_aload2 (i n : Nat) {x : Nat} {l0 l1 : Option Value} {Lr : List (Option Value)} (hd : M.2.2.2.2[i]? = some (pc, .aload_n 2, 1)) (hn : pc + 1 = n) (h : zK X w R M Z n (l0 :: l1 :: some (.ref x) :: Lr) (.ref x :: st) σ k) : zK X w R M Z pc (l0 :: l1 :: some (.ref x) :: Lr) st σ k := by
  subst hn
  intro r σ' hk p e s m args below meth c C H locs ls hP hS hl
  exact lv_aload_n C.hx C.hb (C.dec hd) rfl (zl_at hl (i := 2) rfl) (h r σ' hk p e s m args below meth c C H locs ls hP hS hl)
theorem z_lload2 (i n : Nat) {x : Int64} {l0 l1 : Option Value} {Lr : List (Option Value)} (hd : M.2.2.2.2[i]? = some (pc, .lload_n 2, 1)) (hn : pc + 1 = n) (h : zK X w R M Z n (l0 :: l1 :: some (.long x) :: Lr) (.long x :: st) σ k) : zK X w R M Z pc (l0 :: l1 :: some (.long x) :: Lr) st σ k := by
  subst hn
  intro r σ' hk p e s m args below meth c C H locs ls hP hS hl
  exact lv_lload_n C.hx C.hb (C.dec hd) rfl (zl_at hl (i := 2) rfl) (h r σ' hk p e s m args below meth c C H locs ls hP hS hl)
theorem z_istore2 (i n : Nat) {v : Int32} {kf : Int32 → Option (ρ × zS)} {l0 l1 l2 : Option Value} {Lr : List (Option Value)} (hd : M.2.2.2.2[i]? = some (pc, .istore_n 2, 1)) (hn : pc + 1 = n) (hp : zn l1 = true) (h : ∀ x, zK X w R M Z n (l0 :: l1 :: some (.int x) :: Lr) st σ (kf x)) : zK X w R M Z pc (l0 :: l1 :: l2 :: Lr) (.int v :: st) σ (zlt v kf) := by
  subst hn
  intro r σ' hk p e s m args below meth c C H locs ls hP hS hl
  exact lv_istore_n (i := 2) C.hx C.hb (C.dec hd) rfl (zl_has hl) (by simp only [List.map_cons, List.length_cons]; omega) rfl (fun ls' hl' => h v r σ' hk p e s m args below meth c C H locs ls' hP hS (zset1 (L := l0 :: l1 :: l2 :: Lr) (j := 2) (v := .int v) hp hl'))
theorem z_astore2 (i n : Nat) {v : Nat} {kf : Nat → Option (ρ × zS)} {l0 l1 l2 : Option Value} {Lr : List (Option Value)} (hd : M.2.2.2.2[i]? = some (pc, .astore_n 2, 1)) (hn : pc + 1 = n) (hp : zn l1 = true) (h : ∀ x, zK X w R M Z n (l0 :: l1 :: some (.ref x) :: Lr) st σ (kf x)) : zK X w R M Z pc (l0 :: l1 :: l2 :: Lr) (.ref v :: st) σ (zlt v kf) := by
  subst hn
  intro r σ' hk p e s m args below meth c C H locs ls hP hS hl
  exact lv_astore_n (i := 2) C.hx C.hb (C.dec hd) rfl (zl_has hl) (by simp only [List.map_cons, List.length_cons]; omega) rfl (fun ls' hl' => h v r σ' hk p e s m args below meth c C H locs ls' hP hS (zset1 (L := l0 :: l1 :: l2 :: Lr) (j := 2) (v := .ref v) hp hl'))
theorem z_lstore2 (i n : Nat) {v : Int64} {kf : Int64 → Option (ρ × zS)} {l0 l1 l2 l3 : Option Value} {Lr : List (Option Value)} (hd : M.2.2.2.2[i]? = some (pc, .lstore_n 2, 1)) (hn : pc + 1 = n) (hp : zn l1 = true) (h : ∀ x, zK X w R M Z n (l0 :: l1 :: some (.long x) :: none :: Lr) st σ (kf x)) : zK X w R M Z pc (l0 :: l1 :: l2 :: l3 :: Lr) (.long v :: st) σ (zlt v kf) := by
  subst hn
  intro r σ' hk p e s m args below meth c C H locs ls hP hS hl
  exact lv_lstore_n (i := 2) C.hx C.hb (C.dec hd) rfl (zl_has hl) (by simp only [List.map_cons, List.length_cons]; omega) rfl (fun ls' hl' => h v r σ' hk p e s m args below meth c C H locs ls' hP hS (zset2 (L := l0 :: l1 :: l2 :: l3 :: Lr) (j := 2) (v := .long v) hp hl'))
theorem z_iinc2 (i n : Nat) {x v : Int32} {a : Int} {kf : Int32 → Option (ρ × zS)} {l0 l1 : Option Value} {Lr : List (Option Value)} (hd : M.2.2.2.2[i]? = some (pc, .iinc 2 a, 3)) (hn : pc + 3 = n) (ha : Int32.ofInt a = v) (hp : zn l1 = true) (h : ∀ y, zK X w R M Z n (l0 :: l1 :: some (.int y) :: Lr) st σ (kf y)) : zK X w R M Z pc (l0 :: l1 :: some (.int x) :: Lr) st σ (zlt (x + v) kf) := by
  subst hn; subst ha
  intro r σ' hk p e s m args below meth c C H locs ls hP hS hl
  obtain ⟨q, hq⟩ := List.getElem?_of_mem (zprs_mem.mpr (zl_map' (X := X) (L := l0 :: l1 :: some (.int x) :: Lr) (i := 2) (u := .int x) rfl))
  exact lv_iinc C.hx C.hb (C.dec hd) (zl_has hl) hq rfl (by simp only [List.map_cons, List.length_cons]; omega) rfl (fun ls' hl' => h (x + Int32.ofInt a) r σ' hk p e s m args below meth c C H locs ls' hP hS (zset1 (L := l0 :: l1 :: some (.int x) :: Lr) (j := 2) (v := .int (x + Int32.ofInt a)) hp hl'))
theorem z_iload3 (i n : Nat) {x : Int32} {l0 l1 l2 : Option Value} {Lr : List (Option Value)} (hd : M.2.2.2.2[i]? = some (pc, .iload_n 3, 1)) (hn : pc + 1 = n) (h : zK X w R M Z n (l0 :: l1 :: l2 :: some (.int x) :: Lr) (.int x :: st) σ k) : zK X w R M Z pc (l0 :: l1 :: l2 :: some (.int x) :: Lr) st σ k := by
  subst hn
  intro r σ' hk p e s m args below meth c C H locs ls hP hS hl
  exact lv_iload_n C.hx C.hb (C.dec hd) rfl (zl_at hl (i := 3) rfl) (h r σ' hk p e s m args below meth c C H locs ls hP hS hl)
theorem z_aload3 (i n : Nat) {x : Nat} {l0 l1 l2 : Option Value} {Lr : List (Option Value)} (hd : M.2.2.2.2[i]? = some (pc, .aload_n 3, 1)) (hn : pc + 1 = n) (h : zK X w R M Z n (l0 :: l1 :: l2 :: some (.ref x) :: Lr) (.ref x :: st) σ k) : zK X w R M Z pc (l0 :: l1 :: l2 :: some (.ref x) :: Lr) st σ k := by
  subst hn
  intro r σ' hk p e s m args below meth c C H locs ls hP hS hl
  exact lv_aload_n C.hx C.hb (C.dec hd) rfl (zl_at hl (i := 3) rfl) (h r σ' hk p e s m args below meth c C H locs ls hP hS hl)
theorem z_lload3 (i n : Nat) {x : Int64} {l0 l1 l2 : Option Value} {Lr : List (Option Value)} (hd : M.2.2.2.2[i]? = some (pc, .lload_n 3, 1)) (hn : pc + 1 = n) (h : zK X w R M Z n (l0 :: l1 :: l2 :: some (.long x) :: Lr) (.long x :: st) σ k) : zK X w R M Z pc (l0 :: l1 :: l2 :: some (.long x) :: Lr) st σ k := by
  subst hn
  intro r σ' hk p e s m args below meth c C H locs ls hP hS hl
  exact lv_lload_n C.hx C.hb (C.dec hd) rfl (zl_at hl (i := 3) rfl) (h r σ' hk p e s m args below meth c C H locs ls hP hS hl)
theorem z_istore3 (i n : Nat) {v : Int32} {kf : Int32 → Option (ρ × zS)} {l0 l1 l2 l3 : Option Value} {Lr : List (Option Value)} (hd : M.2.2.2.2[i]? = some (pc, .istore_n 3, 1)) (hn : pc + 1 = n) (hp : zn l2 = true) (h : ∀ x, zK X w R M Z n (l0 :: l1 :: l2 :: some (.int x) :: Lr) st σ (kf x)) : zK X w R M Z pc (l0 :: l1 :: l2 :: l3 :: Lr) (.int v :: st) σ (zlt v kf) := by
  subst hn
  intro r σ' hk p e s m args below meth c C H locs ls hP hS hl
  exact lv_istore_n (i := 3) C.hx C.hb (C.dec hd) rfl (zl_has hl) (by simp only [List.map_cons, List.length_cons]; omega) rfl (fun ls' hl' => h v r σ' hk p e s m args below meth c C H locs ls' hP hS (zset1 (L := l0 :: l1 :: l2 :: l3 :: Lr) (j := 3) (v := .int v) hp hl'))
theorem z_astore3 (i n : Nat) {v : Nat} {kf : Nat → Option (ρ × zS)} {l0 l1 l2 l3 : Option Value} {Lr : List (Option Value)} (hd : M.2.2.2.2[i]? = some (pc, .astore_n 3, 1)) (hn : pc + 1 = n) (hp : zn l2 = true) (h : ∀ x, zK X w R M Z n (l0 :: l1 :: l2 :: some (.ref x) :: Lr) st σ (kf x)) : zK X w R M Z pc (l0 :: l1 :: l2 :: l3 :: Lr) (.ref v :: st) σ (zlt v kf) := by
  subst hn
  intro r σ' hk p e s m args below meth c C H locs ls hP hS hl
  exact lv_astore_n (i := 3) C.hx C.hb (C.dec hd) rfl (zl_has hl) (by simp only [List.map_cons, List.length_cons]; omega) rfl (fun ls' hl' => h v r σ' hk p e s m args below meth c C H locs ls' hP hS (zset1 (L := l0 :: l1 :: l2 :: l3 :: Lr) (j := 3) (v := .ref v) hp hl'))
theorem z_lstore3 (i n : Nat) {v : Int64} {kf : Int64 → Option (ρ × zS)} {l0 l1 l2 l3 l4 : Option Value} {Lr : List (Option Value)} (hd : M.2.2.2.2[i]? = some (pc, .lstore_n 3, 1)) (hn : pc + 1 = n) (hp : zn l2 = true) (h : ∀ x, zK X w R M Z n (l0 :: l1 :: l2 :: some (.long x) :: none :: Lr) st σ (kf x)) : zK X w R M Z pc (l0 :: l1 :: l2 :: l3 :: l4 :: Lr) (.long v :: st) σ (zlt v kf) := by
  subst hn
  intro r σ' hk p e s m args below meth c C H locs ls hP hS hl
  exact lv_lstore_n (i := 3) C.hx C.hb (C.dec hd) rfl (zl_has hl) (by simp only [List.map_cons, List.length_cons]; omega) rfl (fun ls' hl' => h v r σ' hk p e s m args below meth c C H locs ls' hP hS (zset2 (L := l0 :: l1 :: l2 :: l3 :: l4 :: Lr) (j := 3) (v := .long v) hp hl'))
theorem z_iinc3 (i n : Nat) {x v : Int32} {a : Int} {kf : Int32 → Option (ρ × zS)} {l0 l1 l2 : Option Value} {Lr : List (Option Value)} (hd : M.2.2.2.2[i]? = some (pc, .iinc 3 a, 3)) (hn : pc + 3 = n) (ha : Int32.ofInt a = v) (hp : zn l2 = true) (h : ∀ y, zK X w R M Z n (l0 :: l1 :: l2 :: some (.int y) :: Lr) st σ (kf y)) : zK X w R M Z pc (l0 :: l1 :: l2 :: some (.int x) :: Lr) st σ (zlt (x + v) kf) := by
  subst hn; subst ha
  intro r σ' hk p e s m args below meth c C H locs ls hP hS hl
  obtain ⟨q, hq⟩ := List.getElem?_of_mem (zprs_mem.mpr (zl_map' (X := X) (L := l0 :: l1 :: l2 :: some (.int x) :: Lr) (i := 3) (u := .int x) rfl))
  exact lv_iinc C.hx C.hb (C.dec hd) (zl_has hl) hq rfl (by simp only [List.map_cons, List.length_cons]; omega) rfl (fun ls' hl' => h (x + Int32.ofInt a) r σ' hk p e s m args below meth c C H locs ls' hP hS (zset1 (L := l0 :: l1 :: l2 :: some (.int x) :: Lr) (j := 3) (v := .int (x + Int32.ofInt a)) hp hl'))
theorem z_iload4 (i n : Nat) {x : Int32} {l0 l1 l2 l3 : Option Value} {Lr : List (Option Value)} (hd : M.2.2.2.2[i]? = some (pc, .iload 4, 2)) (hn : pc + 2 = n) (h : zK X w R M Z n (l0 :: l1 :: l2 :: l3 :: some (.int x) :: Lr) (.int x :: st) σ k) : zK X w R M Z pc (l0 :: l1 :: l2 :: l3 :: some (.int x) :: Lr) st σ k := by
  subst hn
  intro r σ' hk p e s m args below meth c C H locs ls hP hS hl
  exact lv_iload C.hx C.hb (C.dec hd) (zl_at hl (i := 4) rfl) (h r σ' hk p e s m args below meth c C H locs ls hP hS hl)
theorem z_aload4 (i n : Nat) {x : Nat} {l0 l1 l2 l3 : Option Value} {Lr : List (Option Value)} (hd : M.2.2.2.2[i]? = some (pc, .aload 4, 2)) (hn : pc + 2 = n) (h : zK X w R M Z n (l0 :: l1 :: l2 :: l3 :: some (.ref x) :: Lr) (.ref x :: st) σ k) : zK X w R M Z pc (l0 :: l1 :: l2 :: l3 :: some (.ref x) :: Lr) st σ k := by
  subst hn
  intro r σ' hk p e s m args below meth c C H locs ls hP hS hl
  exact lv_aload C.hx C.hb (C.dec hd) (zl_at hl (i := 4) rfl) (h r σ' hk p e s m args below meth c C H locs ls hP hS hl)
theorem z_lload4 (i n : Nat) {x : Int64} {l0 l1 l2 l3 : Option Value} {Lr : List (Option Value)} (hd : M.2.2.2.2[i]? = some (pc, .lload 4, 2)) (hn : pc + 2 = n) (h : zK X w R M Z n (l0 :: l1 :: l2 :: l3 :: some (.long x) :: Lr) (.long x :: st) σ k) : zK X w R M Z pc (l0 :: l1 :: l2 :: l3 :: some (.long x) :: Lr) st σ k := by
  subst hn
  intro r σ' hk p e s m args below meth c C H locs ls hP hS hl
  exact lv_lload C.hx C.hb (C.dec hd) (zl_at hl (i := 4) rfl) (h r σ' hk p e s m args below meth c C H locs ls hP hS hl)
theorem z_istore4 (i n : Nat) {v : Int32} {kf : Int32 → Option (ρ × zS)} {l0 l1 l2 l3 l4 : Option Value} {Lr : List (Option Value)} (hd : M.2.2.2.2[i]? = some (pc, .istore 4, 2)) (hn : pc + 2 = n) (hp : zn l3 = true) (h : ∀ x, zK X w R M Z n (l0 :: l1 :: l2 :: l3 :: some (.int x) :: Lr) st σ (kf x)) : zK X w R M Z pc (l0 :: l1 :: l2 :: l3 :: l4 :: Lr) (.int v :: st) σ (zlt v kf) := by
  subst hn
  intro r σ' hk p e s m args below meth c C H locs ls hP hS hl
  exact lv_istore (i := 4) C.hx C.hb (C.dec hd) (zl_has hl) (by simp only [List.map_cons, List.length_cons]; omega) rfl (fun ls' hl' => h v r σ' hk p e s m args below meth c C H locs ls' hP hS (zset1 (L := l0 :: l1 :: l2 :: l3 :: l4 :: Lr) (j := 4) (v := .int v) hp hl'))
theorem z_astore4 (i n : Nat) {v : Nat} {kf : Nat → Option (ρ × zS)} {l0 l1 l2 l3 l4 : Option Value} {Lr : List (Option Value)} (hd : M.2.2.2.2[i]? = some (pc, .astore 4, 2)) (hn : pc + 2 = n) (hp : zn l3 = true) (h : ∀ x, zK X w R M Z n (l0 :: l1 :: l2 :: l3 :: some (.ref x) :: Lr) st σ (kf x)) : zK X w R M Z pc (l0 :: l1 :: l2 :: l3 :: l4 :: Lr) (.ref v :: st) σ (zlt v kf) := by
  subst hn
  intro r σ' hk p e s m args below meth c C H locs ls hP hS hl
  exact lv_astore (i := 4) C.hx C.hb (C.dec hd) (zl_has hl) (by simp only [List.map_cons, List.length_cons]; omega) rfl (fun ls' hl' => h v r σ' hk p e s m args below meth c C H locs ls' hP hS (zset1 (L := l0 :: l1 :: l2 :: l3 :: l4 :: Lr) (j := 4) (v := .ref v) hp hl'))
theorem z_lstore4 (i n : Nat) {v : Int64} {kf : Int64 → Option (ρ × zS)} {l0 l1 l2 l3 l4 l5 : Option Value} {Lr : List (Option Value)} (hd : M.2.2.2.2[i]? = some (pc, .lstore 4, 2)) (hn : pc + 2 = n) (hp : zn l3 = true) (h : ∀ x, zK X w R M Z n (l0 :: l1 :: l2 :: l3 :: some (.long x) :: none :: Lr) st σ (kf x)) : zK X w R M Z pc (l0 :: l1 :: l2 :: l3 :: l4 :: l5 :: Lr) (.long v :: st) σ (zlt v kf) := by
  subst hn
  intro r σ' hk p e s m args below meth c C H locs ls hP hS hl
  exact lv_lstore (i := 4) C.hx C.hb (C.dec hd) (zl_has hl) (by simp only [List.map_cons, List.length_cons]; omega) rfl (fun ls' hl' => h v r σ' hk p e s m args below meth c C H locs ls' hP hS (zset2 (L := l0 :: l1 :: l2 :: l3 :: l4 :: l5 :: Lr) (j := 4) (v := .long v) hp hl'))
theorem z_iinc4 (i n : Nat) {x v : Int32} {a : Int} {kf : Int32 → Option (ρ × zS)} {l0 l1 l2 l3 : Option Value} {Lr : List (Option Value)} (hd : M.2.2.2.2[i]? = some (pc, .iinc 4 a, 3)) (hn : pc + 3 = n) (ha : Int32.ofInt a = v) (hp : zn l3 = true) (h : ∀ y, zK X w R M Z n (l0 :: l1 :: l2 :: l3 :: some (.int y) :: Lr) st σ (kf y)) : zK X w R M Z pc (l0 :: l1 :: l2 :: l3 :: some (.int x) :: Lr) st σ (zlt (x + v) kf) := by
  subst hn; subst ha
  intro r σ' hk p e s m args below meth c C H locs ls hP hS hl
  obtain ⟨q, hq⟩ := List.getElem?_of_mem (zprs_mem.mpr (zl_map' (X := X) (L := l0 :: l1 :: l2 :: l3 :: some (.int x) :: Lr) (i := 4) (u := .int x) rfl))
  exact lv_iinc C.hx C.hb (C.dec hd) (zl_has hl) hq rfl (by simp only [List.map_cons, List.length_cons]; omega) rfl (fun ls' hl' => h (x + Int32.ofInt a) r σ' hk p e s m args below meth c C H locs ls' hP hS (zset1 (L := l0 :: l1 :: l2 :: l3 :: some (.int x) :: Lr) (j := 4) (v := .int (x + Int32.ofInt a)) hp hl'))
theorem z_iload5 (i n : Nat) {x : Int32} {l0 l1 l2 l3 l4 : Option Value} {Lr : List (Option Value)} (hd : M.2.2.2.2[i]? = some (pc, .iload 5, 2)) (hn : pc + 2 = n) (h : zK X w R M Z n (l0 :: l1 :: l2 :: l3 :: l4 :: some (.int x) :: Lr) (.int x :: st) σ k) : zK X w R M Z pc (l0 :: l1 :: l2 :: l3 :: l4 :: some (.int x) :: Lr) st σ k := by
  subst hn
  intro r σ' hk p e s m args below meth c C H locs ls hP hS hl
  exact lv_iload C.hx C.hb (C.dec hd) (zl_at hl (i := 5) rfl) (h r σ' hk p e s m args below meth c C H locs ls hP hS hl)
theorem z_aload5 (i n : Nat) {x : Nat} {l0 l1 l2 l3 l4 : Option Value} {Lr : List (Option Value)} (hd : M.2.2.2.2[i]? = some (pc, .aload 5, 2)) (hn : pc + 2 = n) (h : zK X w R M Z n (l0 :: l1 :: l2 :: l3 :: l4 :: some (.ref x) :: Lr) (.ref x :: st) σ k) : zK X w R M Z pc (l0 :: l1 :: l2 :: l3 :: l4 :: some (.ref x) :: Lr) st σ k := by
  subst hn
  intro r σ' hk p e s m args below meth c C H locs ls hP hS hl
  exact lv_aload C.hx C.hb (C.dec hd) (zl_at hl (i := 5) rfl) (h r σ' hk p e s m args below meth c C H locs ls hP hS hl)
theorem z_lload5 (i n : Nat) {x : Int64} {l0 l1 l2 l3 l4 : Option Value} {Lr : List (Option Value)} (hd : M.2.2.2.2[i]? = some (pc, .lload 5, 2)) (hn : pc + 2 = n) (h : zK X w R M Z n (l0 :: l1 :: l2 :: l3 :: l4 :: some (.long x) :: Lr) (.long x :: st) σ k) : zK X w R M Z pc (l0 :: l1 :: l2 :: l3 :: l4 :: some (.long x) :: Lr) st σ k := by
  subst hn
  intro r σ' hk p e s m args below meth c C H locs ls hP hS hl
  exact lv_lload C.hx C.hb (C.dec hd) (zl_at hl (i := 5) rfl) (h r σ' hk p e s m args below meth c C H locs ls hP hS hl)
theorem z_istore5 (i n : Nat) {v : Int32} {kf : Int32 → Option (ρ × zS)} {l0 l1 l2 l3 l4 l5 : Option Value} {Lr : List (Option Value)} (hd : M.2.2.2.2[i]? = some (pc, .istore 5, 2)) (hn : pc + 2 = n) (hp : zn l4 = true) (h : ∀ x, zK X w R M Z n (l0 :: l1 :: l2 :: l3 :: l4 :: some (.int x) :: Lr) st σ (kf x)) : zK X w R M Z pc (l0 :: l1 :: l2 :: l3 :: l4 :: l5 :: Lr) (.int v :: st) σ (zlt v kf) := by
  subst hn
  intro r σ' hk p e s m args below meth c C H locs ls hP hS hl
  exact lv_istore (i := 5) C.hx C.hb (C.dec hd) (zl_has hl) (by simp only [List.map_cons, List.length_cons]; omega) rfl (fun ls' hl' => h v r σ' hk p e s m args below meth c C H locs ls' hP hS (zset1 (L := l0 :: l1 :: l2 :: l3 :: l4 :: l5 :: Lr) (j := 5) (v := .int v) hp hl'))
theorem z_astore5 (i n : Nat) {v : Nat} {kf : Nat → Option (ρ × zS)} {l0 l1 l2 l3 l4 l5 : Option Value} {Lr : List (Option Value)} (hd : M.2.2.2.2[i]? = some (pc, .astore 5, 2)) (hn : pc + 2 = n) (hp : zn l4 = true) (h : ∀ x, zK X w R M Z n (l0 :: l1 :: l2 :: l3 :: l4 :: some (.ref x) :: Lr) st σ (kf x)) : zK X w R M Z pc (l0 :: l1 :: l2 :: l3 :: l4 :: l5 :: Lr) (.ref v :: st) σ (zlt v kf) := by
  subst hn
  intro r σ' hk p e s m args below meth c C H locs ls hP hS hl
  exact lv_astore (i := 5) C.hx C.hb (C.dec hd) (zl_has hl) (by simp only [List.map_cons, List.length_cons]; omega) rfl (fun ls' hl' => h v r σ' hk p e s m args below meth c C H locs ls' hP hS (zset1 (L := l0 :: l1 :: l2 :: l3 :: l4 :: l5 :: Lr) (j := 5) (v := .ref v) hp hl'))
theorem z_lstore5 (i n : Nat) {v : Int64} {kf : Int64 → Option (ρ × zS)} {l0 l1 l2 l3 l4 l5 l6 : Option Value} {Lr : List (Option Value)} (hd : M.2.2.2.2[i]? = some (pc, .lstore 5, 2)) (hn : pc + 2 = n) (hp : zn l4 = true) (h : ∀ x, zK X w R M Z n (l0 :: l1 :: l2 :: l3 :: l4 :: some (.long x) :: none :: Lr) st σ (kf x)) : zK X w R M Z pc (l0 :: l1 :: l2 :: l3 :: l4 :: l5 :: l6 :: Lr) (.long v :: st) σ (zlt v kf) := by
  subst hn
  intro r σ' hk p e s m args below meth c C H locs ls hP hS hl
  exact lv_lstore (i := 5) C.hx C.hb (C.dec hd) (zl_has hl) (by simp only [List.map_cons, List.length_cons]; omega) rfl (fun ls' hl' => h v r σ' hk p e s m args below meth c C H locs ls' hP hS (zset2 (L := l0 :: l1 :: l2 :: l3 :: l4 :: l5 :: l6 :: Lr) (j := 5) (v := .long v) hp hl'))
theorem z_iinc5 (i n : Nat) {x v : Int32} {a : Int} {kf : Int32 → Option (ρ × zS)} {l0 l1 l2 l3 l4 : Option Value} {Lr : List (Option Value)} (hd : M.2.2.2.2[i]? = some (pc, .iinc 5 a, 3)) (hn : pc + 3 = n) (ha : Int32.ofInt a = v) (hp : zn l4 = true) (h : ∀ y, zK X w R M Z n (l0 :: l1 :: l2 :: l3 :: l4 :: some (.int y) :: Lr) st σ (kf y)) : zK X w R M Z pc (l0 :: l1 :: l2 :: l3 :: l4 :: some (.int x) :: Lr) st σ (zlt (x + v) kf) := by
  subst hn; subst ha
  intro r σ' hk p e s m args below meth c C H locs ls hP hS hl
  obtain ⟨q, hq⟩ := List.getElem?_of_mem (zprs_mem.mpr (zl_map' (X := X) (L := l0 :: l1 :: l2 :: l3 :: l4 :: some (.int x) :: Lr) (i := 5) (u := .int x) rfl))
  exact lv_iinc C.hx C.hb (C.dec hd) (zl_has hl) hq rfl (by simp only [List.map_cons, List.length_cons]; omega) rfl (fun ls' hl' => h (x + Int32.ofInt a) r σ' hk p e s m args below meth c C H locs ls' hP hS (zset1 (L := l0 :: l1 :: l2 :: l3 :: l4 :: some (.int x) :: Lr) (j := 5) (v := .int (x + Int32.ofInt a)) hp hl'))
theorem z_iload6 (i n : Nat) {x : Int32} {l0 l1 l2 l3 l4 l5 : Option Value} {Lr : List (Option Value)} (hd : M.2.2.2.2[i]? = some (pc, .iload 6, 2)) (hn : pc + 2 = n) (h : zK X w R M Z n (l0 :: l1 :: l2 :: l3 :: l4 :: l5 :: some (.int x) :: Lr) (.int x :: st) σ k) : zK X w R M Z pc (l0 :: l1 :: l2 :: l3 :: l4 :: l5 :: some (.int x) :: Lr) st σ k := by
  subst hn
  intro r σ' hk p e s m args below meth c C H locs ls hP hS hl
  exact lv_iload C.hx C.hb (C.dec hd) (zl_at hl (i := 6) rfl) (h r σ' hk p e s m args below meth c C H locs ls hP hS hl)
theorem z_aload6 (i n : Nat) {x : Nat} {l0 l1 l2 l3 l4 l5 : Option Value} {Lr : List (Option Value)} (hd : M.2.2.2.2[i]? = some (pc, .aload 6, 2)) (hn : pc + 2 = n) (h : zK X w R M Z n (l0 :: l1 :: l2 :: l3 :: l4 :: l5 :: some (.ref x) :: Lr) (.ref x :: st) σ k) : zK X w R M Z pc (l0 :: l1 :: l2 :: l3 :: l4 :: l5 :: some (.ref x) :: Lr) st σ k := by
  subst hn
  intro r σ' hk p e s m args below meth c C H locs ls hP hS hl
  exact lv_aload C.hx C.hb (C.dec hd) (zl_at hl (i := 6) rfl) (h r σ' hk p e s m args below meth c C H locs ls hP hS hl)
theorem z_lload6 (i n : Nat) {x : Int64} {l0 l1 l2 l3 l4 l5 : Option Value} {Lr : List (Option Value)} (hd : M.2.2.2.2[i]? = some (pc, .lload 6, 2)) (hn : pc + 2 = n) (h : zK X w R M Z n (l0 :: l1 :: l2 :: l3 :: l4 :: l5 :: some (.long x) :: Lr) (.long x :: st) σ k) : zK X w R M Z pc (l0 :: l1 :: l2 :: l3 :: l4 :: l5 :: some (.long x) :: Lr) st σ k := by
  subst hn
  intro r σ' hk p e s m args below meth c C H locs ls hP hS hl
  exact lv_lload C.hx C.hb (C.dec hd) (zl_at hl (i := 6) rfl) (h r σ' hk p e s m args below meth c C H locs ls hP hS hl)
theorem z_istore6 (i n : Nat) {v : Int32} {kf : Int32 → Option (ρ × zS)} {l0 l1 l2 l3 l4 l5 l6 : Option Value} {Lr : List (Option Value)} (hd : M.2.2.2.2[i]? = some (pc, .istore 6, 2)) (hn : pc + 2 = n) (hp : zn l5 = true) (h : ∀ x, zK X w R M Z n (l0 :: l1 :: l2 :: l3 :: l4 :: l5 :: some (.int x) :: Lr) st σ (kf x)) : zK X w R M Z pc (l0 :: l1 :: l2 :: l3 :: l4 :: l5 :: l6 :: Lr) (.int v :: st) σ (zlt v kf) := by
  subst hn
  intro r σ' hk p e s m args below meth c C H locs ls hP hS hl
  exact lv_istore (i := 6) C.hx C.hb (C.dec hd) (zl_has hl) (by simp only [List.map_cons, List.length_cons]; omega) rfl (fun ls' hl' => h v r σ' hk p e s m args below meth c C H locs ls' hP hS (zset1 (L := l0 :: l1 :: l2 :: l3 :: l4 :: l5 :: l6 :: Lr) (j := 6) (v := .int v) hp hl'))
theorem z_astore6 (i n : Nat) {v : Nat} {kf : Nat → Option (ρ × zS)} {l0 l1 l2 l3 l4 l5 l6 : Option Value} {Lr : List (Option Value)} (hd : M.2.2.2.2[i]? = some (pc, .astore 6, 2)) (hn : pc + 2 = n) (hp : zn l5 = true) (h : ∀ x, zK X w R M Z n (l0 :: l1 :: l2 :: l3 :: l4 :: l5 :: some (.ref x) :: Lr) st σ (kf x)) : zK X w R M Z pc (l0 :: l1 :: l2 :: l3 :: l4 :: l5 :: l6 :: Lr) (.ref v :: st) σ (zlt v kf) := by
  subst hn
  intro r σ' hk p e s m args below meth c C H locs ls hP hS hl
  exact lv_astore (i := 6) C.hx C.hb (C.dec hd) (zl_has hl) (by simp only [List.map_cons, List.length_cons]; omega) rfl (fun ls' hl' => h v r σ' hk p e s m args below meth c C H locs ls' hP hS (zset1 (L := l0 :: l1 :: l2 :: l3 :: l4 :: l5 :: l6 :: Lr) (j := 6) (v := .ref v) hp hl'))
theorem z_lstore6 (i n : Nat) {v : Int64} {kf : Int64 → Option (ρ × zS)} {l0 l1 l2 l3 l4 l5 l6 l7 : Option Value} {Lr : List (Option Value)} (hd : M.2.2.2.2[i]? = some (pc, .lstore 6, 2)) (hn : pc + 2 = n) (hp : zn l5 = true) (h : ∀ x, zK X w R M Z n (l0 :: l1 :: l2 :: l3 :: l4 :: l5 :: some (.long x) :: none :: Lr) st σ (kf x)) : zK X w R M Z pc (l0 :: l1 :: l2 :: l3 :: l4 :: l5 :: l6 :: l7 :: Lr) (.long v :: st) σ (zlt v kf) := by
  subst hn
  intro r σ' hk p e s m args below meth c C H locs ls hP hS hl
  exact lv_lstore (i := 6) C.hx C.hb (C.dec hd) (zl_has hl) (by simp only [List.map_cons, List.length_cons]; omega) rfl (fun ls' hl' => h v r σ' hk p e s m args below meth c C H locs ls' hP hS (zset2 (L := l0 :: l1 :: l2 :: l3 :: l4 :: l5 :: l6 :: l7 :: Lr) (j := 6) (v := .long v) hp hl'))
theorem z_iinc6 (i n : Nat) {x v : Int32} {a : Int} {kf : Int32 → Option (ρ × zS)} {l0 l1 l2 l3 l4 l5 : Option Value} {Lr : List (Option Value)} (hd : M.2.2.2.2[i]? = some (pc, .iinc 6 a, 3)) (hn : pc + 3 = n) (ha : Int32.ofInt a = v) (hp : zn l5 = true) (h : ∀ y, zK X w R M Z n (l0 :: l1 :: l2 :: l3 :: l4 :: l5 :: some (.int y) :: Lr) st σ (kf y)) : zK X w R M Z pc (l0 :: l1 :: l2 :: l3 :: l4 :: l5 :: some (.int x) :: Lr) st σ (zlt (x + v) kf) := by
  subst hn; subst ha
  intro r σ' hk p e s m args below meth c C H locs ls hP hS hl
  obtain ⟨q, hq⟩ := List.getElem?_of_mem (zprs_mem.mpr (zl_map' (X := X) (L := l0 :: l1 :: l2 :: l3 :: l4 :: l5 :: some (.int x) :: Lr) (i := 6) (u := .int x) rfl))
  exact lv_iinc C.hx C.hb (C.dec hd) (zl_has hl) hq rfl (by simp only [List.map_cons, List.length_cons]; omega) rfl (fun ls' hl' => h (x + Int32.ofInt a) r σ' hk p e s m args below meth c C H locs ls' hP hS (zset1 (L := l0 :: l1 :: l2 :: l3 :: l4 :: l5 :: some (.int x) :: Lr) (j := 6) (v := .int (x + Int32.ofInt a)) hp hl'))
theorem z_iload7 (i n : Nat) {x : Int32} {l0 l1 l2 l3 l4 l5 l6 : Option Value} {Lr : List (Option Value)} (hd : M.2.2.2.2[i]? = some (pc, .iload 7, 2)) (hn : pc + 2 = n) (h : zK X w R M Z n (l0 :: l1 :: l2 :: l3 :: l4 :: l5 :: l6 :: some (.int x) :: Lr) (.int x :: st) σ k) : zK X w R M Z pc (l0 :: l1 :: l2 :: l3 :: l4 :: l5 :: l6 :: some (.int x) :: Lr) st σ k := by
  subst hn
  intro r σ' hk p e s m args below meth c C H locs ls hP hS hl
  exact lv_iload C.hx C.hb (C.dec hd) (zl_at hl (i := 7) rfl) (h r σ' hk p e s m args below meth c C H locs ls hP hS hl)
theorem z_aload7 (i n : Nat) {x : Nat} {l0 l1 l2 l3 l4 l5 l6 : Option Value} {Lr : List (Option Value)} (hd : M.2.2.2.2[i]? = some (pc, .aload 7, 2)) (hn : pc + 2 = n) (h : zK X w R M Z n (l0 :: l1 :: l2 :: l3 :: l4 :: l5 :: l6 :: some (.ref x) :: Lr) (.ref x :: st) σ k) : zK X w R M Z pc (l0 :: l1 :: l2 :: l3 :: l4 :: l5 :: l6 :: some (.ref x) :: Lr) st σ k := by
  subst hn
  intro r σ' hk p e s m args below meth c C H locs ls hP hS hl
  exact lv_aload C.hx C.hb (C.dec hd) (zl_at hl (i := 7) rfl) (h r σ' hk p e s m args below meth c C H locs ls hP hS hl)
theorem z_lload7 (i n : Nat) {x : Int64} {l0 l1 l2 l3 l4 l5 l6 : Option Value} {Lr : List (Option Value)} (hd : M.2.2.2.2[i]? = some (pc, .lload 7, 2)) (hn : pc + 2 = n) (h : zK X w R M Z n (l0 :: l1 :: l2 :: l3 :: l4 :: l5 :: l6 :: some (.long x) :: Lr) (.long x :: st) σ k) : zK X w R M Z pc (l0 :: l1 :: l2 :: l3 :: l4 :: l5 :: l6 :: some (.long x) :: Lr) st σ k := by
  subst hn
  intro r σ' hk p e s m args below meth c C H locs ls hP hS hl
  exact lv_lload C.hx C.hb (C.dec hd) (zl_at hl (i := 7) rfl) (h r σ' hk p e s m args below meth c C H locs ls hP hS hl)
theorem z_istore7 (i n : Nat) {v : Int32} {kf : Int32 → Option (ρ × zS)} {l0 l1 l2 l3 l4 l5 l6 l7 : Option Value} {Lr : List (Option Value)} (hd : M.2.2.2.2[i]? = some (pc, .istore 7, 2)) (hn : pc + 2 = n) (hp : zn l6 = true) (h : ∀ x, zK X w R M Z n (l0 :: l1 :: l2 :: l3 :: l4 :: l5 :: l6 :: some (.int x) :: Lr) st σ (kf x)) : zK X w R M Z pc (l0 :: l1 :: l2 :: l3 :: l4 :: l5 :: l6 :: l7 :: Lr) (.int v :: st) σ (zlt v kf) := by
  subst hn
  intro r σ' hk p e s m args below meth c C H locs ls hP hS hl
  exact lv_istore (i := 7) C.hx C.hb (C.dec hd) (zl_has hl) (by simp only [List.map_cons, List.length_cons]; omega) rfl (fun ls' hl' => h v r σ' hk p e s m args below meth c C H locs ls' hP hS (zset1 (L := l0 :: l1 :: l2 :: l3 :: l4 :: l5 :: l6 :: l7 :: Lr) (j := 7) (v := .int v) hp hl'))
theorem z_astore7 (i n : Nat) {v : Nat} {kf : Nat → Option (ρ × zS)} {l0 l1 l2 l3 l4 l5 l6 l7 : Option Value} {Lr : List (Option Value)} (hd : M.2.2.2.2[i]? = some (pc, .astore 7, 2)) (hn : pc + 2 = n) (hp : zn l6 = true) (h : ∀ x, zK X w R M Z n (l0 :: l1 :: l2 :: l3 :: l4 :: l5 :: l6 :: some (.ref x) :: Lr) st σ (kf x)) : zK X w R M Z pc (l0 :: l1 :: l2 :: l3 :: l4 :: l5 :: l6 :: l7 :: Lr) (.ref v :: st) σ (zlt v kf) := by
  subst hn
  intro r σ' hk p e s m args below meth c C H locs ls hP hS hl
  exact lv_astore (i := 7) C.hx C.hb (C.dec hd) (zl_has hl) (by simp only [List.map_cons, List.length_cons]; omega) rfl (fun ls' hl' => h v r σ' hk p e s m args below meth c C H locs ls' hP hS (zset1 (L := l0 :: l1 :: l2 :: l3 :: l4 :: l5 :: l6 :: l7 :: Lr) (j := 7) (v := .ref v) hp hl'))
theorem z_lstore7 (i n : Nat) {v : Int64} {kf : Int64 → Option (ρ × zS)} {l0 l1 l2 l3 l4 l5 l6 l7 l8 : Option Value} {Lr : List (Option Value)} (hd : M.2.2.2.2[i]? = some (pc, .lstore 7, 2)) (hn : pc + 2 = n) (hp : zn l6 = true) (h : ∀ x, zK X w R M Z n (l0 :: l1 :: l2 :: l3 :: l4 :: l5 :: l6 :: some (.long x) :: none :: Lr) st σ (kf x)) : zK X w R M Z pc (l0 :: l1 :: l2 :: l3 :: l4 :: l5 :: l6 :: l7 :: l8 :: Lr) (.long v :: st) σ (zlt v kf) := by
  subst hn
  intro r σ' hk p e s m args below meth c C H locs ls hP hS hl
  exact lv_lstore (i := 7) C.hx C.hb (C.dec hd) (zl_has hl) (by simp only [List.map_cons, List.length_cons]; omega) rfl (fun ls' hl' => h v r σ' hk p e s m args below meth c C H locs ls' hP hS (zset2 (L := l0 :: l1 :: l2 :: l3 :: l4 :: l5 :: l6 :: l7 :: l8 :: Lr) (j := 7) (v := .long v) hp hl'))
theorem z_iinc7 (i n : Nat) {x v : Int32} {a : Int} {kf : Int32 → Option (ρ × zS)} {l0 l1 l2 l3 l4 l5 l6 : Option Value} {Lr : List (Option Value)} (hd : M.2.2.2.2[i]? = some (pc, .iinc 7 a, 3)) (hn : pc + 3 = n) (ha : Int32.ofInt a = v) (hp : zn l6 = true) (h : ∀ y, zK X w R M Z n (l0 :: l1 :: l2 :: l3 :: l4 :: l5 :: l6 :: some (.int y) :: Lr) st σ (kf y)) : zK X w R M Z pc (l0 :: l1 :: l2 :: l3 :: l4 :: l5 :: l6 :: some (.int x) :: Lr) st σ (zlt (x + v) kf) := by
  subst hn; subst ha
  intro r σ' hk p e s m args below meth c C H locs ls hP hS hl
  obtain ⟨q, hq⟩ := List.getElem?_of_mem (zprs_mem.mpr (zl_map' (X := X) (L := l0 :: l1 :: l2 :: l3 :: l4 :: l5 :: l6 :: some (.int x) :: Lr) (i := 7) (u := .int x) rfl))
  exact lv_iinc C.hx C.hb (C.dec hd) (zl_has hl) hq rfl (by simp only [List.map_cons, List.length_cons]; omega) rfl (fun ls' hl' => h (x + Int32.ofInt a) r σ' hk p e s m args below meth c C H locs ls' hP hS (zset1 (L := l0 :: l1 :: l2 :: l3 :: l4 :: l5 :: l6 :: some (.int x) :: Lr) (j := 7) (v := .int (x + Int32.ofInt a)) hp hl'))
theorem z_iload8 (i n : Nat) {x : Int32} {l0 l1 l2 l3 l4 l5 l6 l7 : Option Value} {Lr : List (Option Value)} (hd : M.2.2.2.2[i]? = some (pc, .iload 8, 2)) (hn : pc + 2 = n) (h : zK X w R M Z n (l0 :: l1 :: l2 :: l3 :: l4 :: l5 :: l6 :: l7 :: some (.int x) :: Lr) (.int x :: st) σ k) : zK X w R M Z pc (l0 :: l1 :: l2 :: l3 :: l4 :: l5 :: l6 :: l7 :: some (.int x) :: Lr) st σ k := by
  subst hn
  intro r σ' hk p e s m args below meth c C H locs ls hP hS hl
  exact lv_iload C.hx C.hb (C.dec hd) (zl_at hl (i := 8) rfl) (h r σ' hk p e s m args below meth c C H locs ls hP hS hl)
theorem z_aload8 (i n : Nat) {x : Nat} {l0 l1 l2 l3 l4 l5 l6 l7 : Option Value} {Lr : List (Option Value)} (hd : M.2.2.2.2[i]? = some (pc, .aload 8, 2)) (hn : pc + 2 = n) (h : zK X w R M Z n (l0 :: l1 :: l2 :: l3 :: l4 :: l5 :: l6 :: l7 :: some (.ref x) :: Lr) (.ref x :: st) σ k) : zK X w R M Z pc (l0 :: l1 :: l2 :: l3 :: l4 :: l5 :: l6 :: l7 :: some (.ref x) :: Lr) st σ k := by
  subst hn
  intro r σ' hk p e s m args below meth c C H locs ls hP hS hl
  exact lv_aload C.hx C.hb (C.dec hd) (zl_at hl (i := 8) rfl) (h r σ' hk p e s m args below meth c C H locs ls hP hS hl)
theorem z_lload8 (i n : Nat) {x : Int64} {l0 l1 l2 l3 l4 l5 l6 l7 : Option Value} {Lr : List (Option Value)} (hd : M.2.2.2.2[i]? = some (pc, .lload 8, 2)) (hn : pc + 2 = n) (h : zK X w R M Z n (l0 :: l1 :: l2 :: l3 :: l4 :: l5 :: l6 :: l7 :: some (.long x) :: Lr) (.long x :: st) σ k) : zK X w R M Z pc (l0 :: l1 :: l2 :: l3 :: l4 :: l5 :: l6 :: l7 :: some (.long x) :: Lr) st σ k := by
  subst hn
  intro r σ' hk p e s m args below meth c C H locs ls hP hS hl
  exact lv_lload C.hx C.hb (C.dec hd) (zl_at hl (i := 8) rfl) (h r σ' hk p e s m args below meth c C H locs ls hP hS hl)
theorem z_istore8 (i n : Nat) {v : Int32} {kf : Int32 → Option (ρ × zS)} {l0 l1 l2 l3 l4 l5 l6 l7 l8 : Option Value} {Lr : List (Option Value)} (hd : M.2.2.2.2[i]? = some (pc, .istore 8, 2)) (hn : pc + 2 = n) (hp : zn l7 = true) (h : ∀ x, zK X w R M Z n (l0 :: l1 :: l2 :: l3 :: l4 :: l5 :: l6 :: l7 :: some (.int x) :: Lr) st σ (kf x)) : zK X w R M Z pc (l0 :: l1 :: l2 :: l3 :: l4 :: l5 :: l6 :: l7 :: l8 :: Lr) (.int v :: st) σ (zlt v kf) := by
  subst hn
  intro r σ' hk p e s m args below meth c C H locs ls hP hS hl
  exact lv_istore (i := 8) C.hx C.hb (C.dec hd) (zl_has hl) (by simp only [List.map_cons, List.length_cons]; omega) rfl (fun ls' hl' => h v r σ' hk p e s m args below meth c C H locs ls' hP hS (zset1 (L := l0 :: l1 :: l2 :: l3 :: l4 :: l5 :: l6 :: l7 :: l8 :: Lr) (j := 8) (v := .int v) hp hl'))
theorem z_astore8 (i n : Nat) {v : Nat} {kf : Nat → Option (ρ × zS)} {l0 l1 l2 l3 l4 l5 l6 l7 l8 : Option Value} {Lr : List (Option Value)} (hd : M.2.2.2.2[i]? = some (pc, .astore 8, 2)) (hn : pc + 2 = n) (hp : zn l7 = true) (h : ∀ x, zK X w R M Z n (l0 :: l1 :: l2 :: l3 :: l4 :: l5 :: l6 :: l7 :: some (.ref x) :: Lr) st σ (kf x)) : zK X w R M Z pc (l0 :: l1 :: l2 :: l3 :: l4 :: l5 :: l6 :: l7 :: l8 :: Lr) (.ref v :: st) σ (zlt v kf) := by
  subst hn
  intro r σ' hk p e s m args below meth c C H locs ls hP hS hl
  exact lv_astore (i := 8) C.hx C.hb (C.dec hd) (zl_has hl) (by simp only [List.map_cons, List.length_cons]; omega) rfl (fun ls' hl' => h v r σ' hk p e s m args below meth c C H locs ls' hP hS (zset1 (L := l0 :: l1 :: l2 :: l3 :: l4 :: l5 :: l6 :: l7 :: l8 :: Lr) (j := 8) (v := .ref v) hp hl'))
theorem z_lstore8 (i n : Nat) {v : Int64} {kf : Int64 → Option (ρ × zS)} {l0 l1 l2 l3 l4 l5 l6 l7 l8 l9 : Option Value} {Lr : List (Option Value)} (hd : M.2.2.2.2[i]? = some (pc, .lstore 8, 2)) (hn : pc + 2 = n) (hp : zn l7 = true) (h : ∀ x, zK X w R M Z n (l0 :: l1 :: l2 :: l3 :: l4 :: l5 :: l6 :: l7 :: some (.long x) :: none :: Lr) st σ (kf x)) : zK X w R M Z pc (l0 :: l1 :: l2 :: l3 :: l4 :: l5 :: l6 :: l7 :: l8 :: l9 :: Lr) (.long v :: st) σ (zlt v kf) := by
  subst hn
  intro r σ' hk p e s m args below meth c C H locs ls hP hS hl
  exact lv_lstore (i := 8) C.hx C.hb (C.dec hd) (zl_has hl) (by simp only [List.map_cons, List.length_cons]; omega) rfl (fun ls' hl' => h v r σ' hk p e s m args below meth c C H locs ls' hP hS (zset2 (L := l0 :: l1 :: l2 :: l3 :: l4 :: l5 :: l6 :: l7 :: l8 :: l9 :: Lr) (j := 8) (v := .long v) hp hl'))
theorem z_iinc8 (i n : Nat) {x v : Int32} {a : Int} {kf : Int32 → Option (ρ × zS)} {l0 l1 l2 l3 l4 l5 l6 l7 : Option Value} {Lr : List (Option Value)} (hd : M.2.2.2.2[i]? = some (pc, .iinc 8 a, 3)) (hn : pc + 3 = n) (ha : Int32.ofInt a = v) (hp : zn l7 = true) (h : ∀ y, zK X w R M Z n (l0 :: l1 :: l2 :: l3 :: l4 :: l5 :: l6 :: l7 :: some (.int y) :: Lr) st σ (kf y)) : zK X w R M Z pc (l0 :: l1 :: l2 :: l3 :: l4 :: l5 :: l6 :: l7 :: some (.int x) :: Lr) st σ (zlt (x + v) kf) := by
  subst hn; subst ha
  intro r σ' hk p e s m args below meth c C H locs ls hP hS hl
  obtain ⟨q, hq⟩ := List.getElem?_of_mem (zprs_mem.mpr (zl_map' (X := X) (L := l0 :: l1 :: l2 :: l3 :: l4 :: l5 :: l6 :: l7 :: some (.int x) :: Lr) (i := 8) (u := .int x) rfl))
  exact lv_iinc C.hx C.hb (C.dec hd) (zl_has hl) hq rfl (by simp only [List.map_cons, List.length_cons]; omega) rfl (fun ls' hl' => h (x + Int32.ofInt a) r σ' hk p e s m args below meth c C H locs ls' hP hS (zset1 (L := l0 :: l1 :: l2 :: l3 :: l4 :: l5 :: l6 :: l7 :: some (.int x) :: Lr) (j := 8) (v := .int (x + Int32.ofInt a)) hp hl'))
theorem z_iload9 (i n : Nat) {x : Int32} {l0 l1 l2 l3 l4 l5 l6 l7 l8 : Option Value} {Lr : List (Option Value)} (hd : M.2.2.2.2[i]? = some (pc, .iload 9, 2)) (hn : pc + 2 = n) (h : zK X w R M Z n (l0 :: l1 :: l2 :: l3 :: l4 :: l5 :: l6 :: l7 :: l8 :: some (.int x) :: Lr) (.int x :: st) σ k) : zK X w R M Z pc (l0 :: l1 :: l2 :: l3 :: l4 :: l5 :: l6 :: l7 :: l8 :: some (.int x) :: Lr) st σ k := by
  subst hn
  intro r σ' hk p e s m args below meth c C H locs ls hP hS hl
  exact lv_iload C.hx C.hb (C.dec hd) (zl_at hl (i := 9) rfl) (h r σ' hk p e s m args below meth c C H locs ls hP hS hl)
theorem z_aload9 (i n : Nat) {x : Nat} {l0 l1 l2 l3 l4 l5 l6 l7 l8 : Option Value} {Lr : List (Option Value)} (hd : M.2.2.2.2[i]? = some (pc, .aload 9, 2)) (hn : pc + 2 = n) (h : zK X w R M Z n (l0 :: l1 :: l2 :: l3 :: l4 :: l5 :: l6 :: l7 :: l8 :: some (.ref x) :: Lr) (.ref x :: st) σ k) : zK X w R M Z pc (l0 :: l1 :: l2 :: l3 :: l4 :: l5 :: l6 :: l7 :: l8 :: some (.ref x) :: Lr) st σ k := by
  subst hn
  intro r σ' hk p e s m args below meth c C H locs ls hP hS hl
  exact lv_aload C.hx C.hb (C.dec hd) (zl_at hl (i := 9) rfl) (h r σ' hk p e s m args below meth c C H locs ls hP hS hl)
theorem z_lload9 (i n : Nat) {x : Int64} {l0 l1 l2 l3 l4 l5 l6 l7 l8 : Option Value} {Lr : List (Option Value)} (hd : M.2.2.2.2[i]? = some (pc, .lload 9, 2)) (hn : pc + 2 = n) (h : zK X w R M Z n (l0 :: l1 :: l2 :: l3 :: l4 :: l5 :: l6 :: l7 :: l8 :: some (.long x) :: Lr) (.long x :: st) σ k) : zK X w R M Z pc (l0 :: l1 :: l2 :: l3 :: l4 :: l5 :: l6 :: l7 :: l8 :: some (.long x) :: Lr) st σ k := by
  subst hn
  intro r σ' hk p e s m args below meth c C H locs ls hP hS hl
  exact lv_lload C.hx C.hb (C.dec hd) (zl_at hl (i := 9) rfl) (h r σ' hk p e s m args below meth c C H locs ls hP hS hl)
theorem z_istore9 (i n : Nat) {v : Int32} {kf : Int32 → Option (ρ × zS)} {l0 l1 l2 l3 l4 l5 l6 l7 l8 l9 : Option Value} {Lr : List (Option Value)} (hd : M.2.2.2.2[i]? = some (pc, .istore 9, 2)) (hn : pc + 2 = n) (hp : zn l8 = true) (h : ∀ x, zK X w R M Z n (l0 :: l1 :: l2 :: l3 :: l4 :: l5 :: l6 :: l7 :: l8 :: some (.int x) :: Lr) st σ (kf x)) : zK X w R M Z pc (l0 :: l1 :: l2 :: l3 :: l4 :: l5 :: l6 :: l7 :: l8 :: l9 :: Lr) (.int v :: st) σ (zlt v kf) := by
  subst hn
  intro r σ' hk p e s m args below meth c C H locs ls hP hS hl
  exact lv_istore (i := 9) C.hx C.hb (C.dec hd) (zl_has hl) (by simp only [List.map_cons, List.length_cons]; omega) rfl (fun ls' hl' => h v r σ' hk p e s m args below meth c C H locs ls' hP hS (zset1 (L := l0 :: l1 :: l2 :: l3 :: l4 :: l5 :: l6 :: l7 :: l8 :: l9 :: Lr) (j := 9) (v := .int v) hp hl'))
theorem z_astore9 (i n : Nat) {v : Nat} {kf : Nat → Option (ρ × zS)} {l0 l1 l2 l3 l4 l5 l6 l7 l8 l9 : Option Value} {Lr : List (Option Value)} (hd : M.2.2.2.2[i]? = some (pc, .astore 9, 2)) (hn : pc + 2 = n) (hp : zn l8 = true) (h : ∀ x, zK X w R M Z n (l0 :: l1 :: l2 :: l3 :: l4 :: l5 :: l6 :: l7 :: l8 :: some (.ref x) :: Lr) st σ (kf x)) : zK X w R M Z pc (l0 :: l1 :: l2 :: l3 :: l4 :: l5 :: l6 :: l7 :: l8 :: l9 :: Lr) (.ref v :: st) σ (zlt v kf) := by
  subst hn
  intro r σ' hk p e s m args below meth c C H locs ls hP hS hl
  exact lv_astore (i := 9) C.hx C.hb (C.dec hd) (zl_has hl) (by simp only [List.map_cons, List.length_cons]; omega) rfl (fun ls' hl' => h v r σ' hk p e s m args below meth c C H locs ls' hP hS (zset1 (L := l0 :: l1 :: l2 :: l3 :: l4 :: l5 :: l6 :: l7 :: l8 :: l9 :: Lr) (j := 9) (v := .ref v) hp hl'))
theorem z_lstore9 (i n : Nat) {v : Int64} {kf : Int64 → Option (ρ × zS)} {l0 l1 l2 l3 l4 l5 l6 l7 l8 l9 l10 : Option Value} {Lr : List (Option Value)} (hd : M.2.2.2.2[i]? = some (pc, .lstore 9, 2)) (hn : pc + 2 = n) (hp : zn l8 = true) (h : ∀ x, zK X w R M Z n (l0 :: l1 :: l2 :: l3 :: l4 :: l5 :: l6 :: l7 :: l8 :: some (.long x) :: none :: Lr) st σ (kf x)) : zK X w R M Z pc (l0 :: l1 :: l2 :: l3 :: l4 :: l5 :: l6 :: l7 :: l8 :: l9 :: l10 :: Lr) (.long v :: st) σ (zlt v kf) := by
  subst hn
  intro r σ' hk p e s m args below meth c C H locs ls hP hS hl
  exact lv_lstore (i := 9) C.hx C.hb (C.dec hd) (zl_has hl) (by simp only [List.map_cons, List.length_cons]; omega) rfl (fun ls' hl' => h v r σ' hk p e s m args below meth c C H locs ls' hP hS (zset2 (L := l0 :: l1 :: l2 :: l3 :: l4 :: l5 :: l6 :: l7 :: l8 :: l9 :: l10 :: Lr) (j := 9) (v := .long v) hp hl'))
theorem z_iinc9 (i n : Nat) {x v : Int32} {a : Int} {kf : Int32 → Option (ρ × zS)} {l0 l1 l2 l3 l4 l5 l6 l7 l8 : Option Value} {Lr : List (Option Value)} (hd : M.2.2.2.2[i]? = some (pc, .iinc 9 a, 3)) (hn : pc + 3 = n) (ha : Int32.ofInt a = v) (hp : zn l8 = true) (h : ∀ y, zK X w R M Z n (l0 :: l1 :: l2 :: l3 :: l4 :: l5 :: l6 :: l7 :: l8 :: some (.int y) :: Lr) st σ (kf y)) : zK X w R M Z pc (l0 :: l1 :: l2 :: l3 :: l4 :: l5 :: l6 :: l7 :: l8 :: some (.int x) :: Lr) st σ (zlt (x + v) kf) := by
  subst hn; subst ha
  intro r σ' hk p e s m args below meth c C H locs ls hP hS hl
  obtain ⟨q, hq⟩ := List.getElem?_of_mem (zprs_mem.mpr (zl_map' (X := X) (L := l0 :: l1 :: l2 :: l3 :: l4 :: l5 :: l6 :: l7 :: l8 :: some (.int x) :: Lr) (i := 9) (u := .int x) rfl))
  exact lv_iinc C.hx C.hb (C.dec hd) (zl_has hl) hq rfl (by simp only [List.map_cons, List.length_cons]; omega) rfl (fun ls' hl' => h (x + Int32.ofInt a) r σ' hk p e s m args below meth c C H locs ls' hP hS (zset1 (L := l0 :: l1 :: l2 :: l3 :: l4 :: l5 :: l6 :: l7 :: l8 :: some (.int x) :: Lr) (j := 9) (v := .int (x + Int32.ofInt a)) hp hl'))
theorem z_iload10 (i n : Nat) {x : Int32} {l0 l1 l2 l3 l4 l5 l6 l7 l8 l9 : Option Value} {Lr : List (Option Value)} (hd : M.2.2.2.2[i]? = some (pc, .iload 10, 2)) (hn : pc + 2 = n) (h : zK X w R M Z n (l0 :: l1 :: l2 :: l3 :: l4 :: l5 :: l6 :: l7 :: l8 :: l9 :: some (.int x) :: Lr) (.int x :: st) σ k) : zK X w R M Z pc (l0 :: l1 :: l2 :: l3 :: l4 :: l5 :: l6 :: l7 :: l8 :: l9 :: some (.int x) :: Lr) st σ k := by
  subst hn
  intro r σ' hk p e s m args below meth c C H locs ls hP hS hl
  exact lv_iload C.hx C.hb (C.dec hd) (zl_at hl (i := 10) rfl) (h r σ' hk p e s m args below meth c C H locs ls hP hS hl)
theorem z_aload10 (i n : Nat) {x : Nat} {l0 l1 l2 l3 l4 l5 l6 l7 l8 l9 : Option Value} {Lr : List (Option Value)} (hd : M.2.2.2.2[i]? = some (pc, .aload 10, 2)) (hn : pc + 2 = n) (h : zK X w R M Z n (l0 :: l1 :: l2 :: l3 :: l4 :: l5 :: l6 :: l7 :: l8 :: l9 :: some (.ref x) :: Lr) (.ref x :: st) σ k) : zK X w R M Z pc (l0 :: l1 :: l2 :: l3 :: l4 :: l5 :: l6 :: l7 :: l8 :: l9 :: some (.ref x) :: Lr) st σ k := by
  subst hn
  intro r σ' hk p e s m args below meth c C H locs ls hP hS hl
  exact lv_aload C.hx C.hb (C.dec hd) (zl_at hl (i := 10) rfl) (h r σ' hk p e s m args below meth c C H locs ls hP hS hl)
theorem z_lload10 (i n : Nat) {x : Int64} {l0 l1 l2 l3 l4 l5 l6 l7 l8 l9 : Option Value} {Lr : List (Option Value)} (hd : M.2.2.2.2[i]? = some (pc, .lload 10, 2)) (hn : pc + 2 = n) (h : zK X w R M Z n (l0 :: l1 :: l2 :: l3 :: l4 :: l5 :: l6 :: l7 :: l8 :: l9 :: some (.long x) :: Lr) (.long x :: st) σ k) : zK X w R M Z pc (l0 :: l1 :: l2 :: l3 :: l4 :: l5 :: l6 :: l7 :: l8 :: l9 :: some (.long x) :: Lr) st σ k := by
  subst hn
  intro r σ' hk p e s m args below meth c C H locs ls hP hS hl
  exact lv_lload C.hx C.hb (C.dec hd) (zl_at hl (i := 10) rfl) (h r σ' hk p e s m args below meth c C H locs ls hP hS hl)
theorem z_istore10 (i n : Nat) {v : Int32} {kf : Int32 → Option (ρ × zS)} {l0 l1 l2 l3 l4 l5 l6 l7 l8 l9 l10 : Option Value} {Lr : List (Option Value)} (hd : M.2.2.2.2[i]? = some (pc, .istore 10, 2)) (hn : pc + 2 = n) (hp : zn l9 = true) (h : ∀ x, zK X w R M Z n (l0 :: l1 :: l2 :: l3 :: l4 :: l5 :: l6 :: l7 :: l8 :: l9 :: some (.int x) :: Lr) st σ (kf x)) : zK X w R M Z pc (l0 :: l1 :: l2 :: l3 :: l4 :: l5 :: l6 :: l7 :: l8 :: l9 :: l10 :: Lr) (.int v :: st) σ (zlt v kf) := by
  subst hn
  intro r σ' hk p e s m args below meth c C H locs ls hP hS hl
  exact lv_istore (i := 10) C.hx C.hb (C.dec hd) (zl_has hl) (by simp only [List.map_cons, List.length_cons]; omega) rfl (fun ls' hl' => h v r σ' hk p e s m args below meth c C H locs ls' hP hS (zset1 (L := l0 :: l1 :: l2 :: l3 :: l4 :: l5 :: l6 :: l7 :: l8 :: l9 :: l10 :: Lr) (j := 10) (v := .int v) hp hl'))
theorem z_astore10 (i n : Nat) {v : Nat} {kf : Nat → Option (ρ × zS)} {l0 l1 l2 l3 l4 l5 l6 l7 l8 l9 l10 : Option Value} {Lr : List (Option Value)} (hd : M.2.2.2.2[i]? = some (pc, .astore 10, 2)) (hn : pc + 2 = n) (hp : zn l9 = true) (h : ∀ x, zK X w R M Z n (l0 :: l1 :: l2 :: l3 :: l4 :: l5 :: l6 :: l7 :: l8 :: l9 :: some (.ref x) :: Lr) st σ (kf x)) : zK X w R M Z pc (l0 :: l1 :: l2 :: l3 :: l4 :: l5 :: l6 :: l7 :: l8 :: l9 :: l10 :: Lr) (.ref v :: st) σ (zlt v kf) := by
  subst hn
  intro r σ' hk p e s m args below meth c C H locs ls hP hS hl
  exact lv_astore (i := 10) C.hx C.hb (C.dec hd) (zl_has hl) (by simp only [List.map_cons, List.length_cons]; omega) rfl (fun ls' hl' => h v r σ' hk p e s m args below meth c C H locs ls' hP hS (zset1 (L := l0 :: l1 :: l2 :: l3 :: l4 :: l5 :: l6 :: l7 :: l8 :: l9 :: l10 :: Lr) (j := 10) (v := .ref v) hp hl'))
theorem z_lstore10 (i n : Nat) {v : Int64} {kf : Int64 → Option (ρ × zS)} {l0 l1 l2 l3 l4 l5 l6 l7 l8 l9 l10 l11 : Option Value} {Lr : List (Option Value)} (hd : M.2.2.2.2[i]? = some (pc, .lstore 10, 2)) (hn : pc + 2 = n) (hp : zn l9 = true) (h : ∀ x, zK X w R M Z n (l0 :: l1 :: l2 :: l3 :: l4 :: l5 :: l6 :: l7 :: l8 :: l9 :: some (.long x) :: none :: Lr) st σ (kf x)) : zK X w R M Z pc (l0 :: l1 :: l2 :: l3 :: l4 :: l5 :: l6 :: l7 :: l8 :: l9 :: l10 :: l11 :: Lr) (.long v :: st) σ (zlt v kf) := by
  subst hn
  intro r σ' hk p e s m args below meth c C H locs ls hP hS hl
  exact lv_lstore (i := 10) C.hx C.hb (C.dec hd) (zl_has hl) (by simp only [List.map_cons, List.length_cons]; omega) rfl (fun ls' hl' => h v r σ' hk p e s m args below meth c C H locs ls' hP hS (zset2 (L := l0 :: l1 :: l2 :: l3 :: l4 :: l5 :: l6 :: l7 :: l8 :: l9 :: l10 :: l11 :: Lr) (j := 10) (v := .long v) hp hl'))
theorem z_iinc10 (i n : Nat) {x v : Int32} {a : Int} {kf : Int32 → Option (ρ × zS)} {l0 l1 l2 l3 l4 l5 l6 l7 l8 l9 : Option Value} {Lr : List (Option Value)} (hd : M.2.2.2.2[i]? = some (pc, .iinc 10 a, 3)) (hn : pc + 3 = n) (ha : Int32.ofInt a = v) (hp : zn l9 = true) (h : ∀ y, zK X w R M Z n (l0 :: l1 :: l2 :: l3 :: l4 :: l5 :: l6 :: l7 :: l8 :: l9 :: some (.int y) :: Lr) st σ (kf y)) : zK X w R M Z pc (l0 :: l1 :: l2 :: l3 :: l4 :: l5 :: l6 :: l7 :: l8 :: l9 :: some (.int x) :: Lr) st σ (zlt (x + v) kf) := by
  subst hn; subst ha
  intro r σ' hk p e s m args below meth c C H locs ls hP hS hl
  obtain ⟨q, hq⟩ := List.getElem?_of_mem (zprs_mem.mpr (zl_map' (X := X) (L := l0 :: l1 :: l2 :: l3 :: l4 :: l5 :: l6 :: l7 :: l8 :: l9 :: some (.int x) :: Lr) (i := 10) (u := .int x) rfl))
  exact lv_iinc C.hx C.hb (C.dec hd) (zl_has hl) hq rfl (by simp only [List.map_cons, List.length_cons]; omega) rfl (fun ls' hl' => h (x + Int32.ofInt a) r σ' hk p e s m args below meth c C H locs ls' hP hS (zset1 (L := l0 :: l1 :: l2 :: l3 :: l4 :: l5 :: l6 :: l7 :: l8 :: l9 :: some (.int x) :: Lr) (j := 10) (v := .int (x + Int32.ofInt a)) hp hl'))
theorem z_iload11 (i n : Nat) {x : Int32} {l0 l1 l2 l3 l4 l5 l6 l7 l8 l9 l10 : Option Value} {Lr : List (Option Value)} (hd : M.2.2.2.2[i]? = some (pc, .iload 11, 2)) (hn : pc + 2 = n) (h : zK X w R M Z n (l0 :: l1 :: l2 :: l3 :: l4 :: l5 :: l6 :: l7 :: l8 :: l9 :: l10 :: some (.int x) :: Lr) (.int x :: st) σ k) : zK X w R M Z pc (l0 :: l1 :: l2 :: l3 :: l4 :: l5 :: l6 :: l7 :: l8 :: l9 :: l10 :: some (.int x) :: Lr) st σ k := by
  subst hn
  intro r σ' hk p e s m args below meth c C H locs ls hP hS hl
  exact lv_iload C.hx C.hb (C.dec hd) (zl_at hl (i := 11) rfl) (h r σ' hk p e s m args below meth c C H locs ls hP hS hl)
theorem z_aload11 (i n : Nat) {x : Nat} {l0 l1 l2 l3 l4 l5 l6 l7 l8 l9 l10 : Option Value} {Lr : List (Option Value)} (hd : M.2.2.2.2[i]? = some (pc, .aload 11, 2)) (hn : pc + 2 = n) (h : zK X w R M Z n (l0 :: l1 :: l2 :: l3 :: l4 :: l5 :: l6 :: l7 :: l8 :: l9 :: l10 :: some (.ref x) :: Lr) (.ref x :: st) σ k) : zK X w R M Z pc (l0 :: l1 :: l2 :: l3 :: l4 :: l5 :: l6 :: l7 :: l8 :: l9 :: l10 :: some (.ref x) :: Lr) st σ k := by
  subst hn
  intro r σ' hk p e s m args below meth c C H locs ls hP hS hl
  exact lv_aload C.hx C.hb (C.dec hd) (zl_at hl (i := 11) rfl) (h r σ' hk p e s m args below meth c C H locs ls hP hS hl)
theorem z_lload11 (i n : Nat) {x : Int64} {l0 l1 l2 l3 l4 l5 l6 l7 l8 l9 l10 : Option Value} {Lr : List (Option Value)} (hd : M.2.2.2.2[i]? = some (pc, .lload 11, 2)) (hn : pc + 2 = n) (h : zK X w R M Z n (l0 :: l1 :: l2 :: l3 :: l4 :: l5 :: l6 :: l7 :: l8 :: l9 :: l10 :: some (.long x) :: Lr) (.long x :: st) σ k) : zK X w R M Z pc (l0 :: l1 :: l2 :: l3 :: l4 :: l5 :: l6 :: l7 :: l8 :: l9 :: l10 :: some (.long x) :: Lr) st σ k := by
  subst hn
  intro r σ' hk p e s m args below meth c C H locs ls hP hS hl
  exact lv_lload C.hx C.hb (C.dec hd) (zl_at hl (i := 11) rfl) (h r σ' hk p e s m args below meth c C H locs ls hP hS hl)
theorem z_istore11 (i n : Nat) {v : Int32} {kf : Int32 → Option (ρ × zS)} {l0 l1 l2 l3 l4 l5 l6 l7 l8 l9 l10 l11 : Option Value} {Lr : List (Option Value)} (hd : M.2.2.2.2[i]? = some (pc, .istore 11, 2)) (hn : pc + 2 = n) (hp : zn l10 = true) (h : ∀ x, zK X w R M Z n (l0 :: l1 :: l2 :: l3 :: l4 :: l5 :: l6 :: l7 :: l8 :: l9 :: l10 :: some (.int x) :: Lr) st σ (kf x)) : zK X w R M Z pc (l0 :: l1 :: l2 :: l3 :: l4 :: l5 :: l6 :: l7 :: l8 :: l9 :: l10 :: l11 :: Lr) (.int v :: st) σ (zlt v kf) := by
  subst hn
  intro r σ' hk p e s m args below meth c C H locs ls hP hS hl
  exact lv_istore (i := 11) C.hx C.hb (C.dec hd) (zl_has hl) (by simp only [List.map_cons, List.length_cons]; omega) rfl (fun ls' hl' => h v r σ' hk p e s m args below meth c C H locs ls' hP hS (zset1 (L := l0 :: l1 :: l2 :: l3 :: l4 :: l5 :: l6 :: l7 :: l8 :: l9 :: l10 :: l11 :: Lr) (j := 11) (v := .int v) hp hl'))
theorem z_astore11 (i n : Nat) {v : Nat} {kf : Nat → Option (ρ × zS)} {l0 l1 l2 l3 l4 l5 l6 l7 l8 l9 l10 l11 : Option Value} {Lr : List (Option Value)} (hd : M.2.2.2.2[i]? = some (pc, .astore 11, 2)) (hn : pc + 2 = n) (hp : zn l10 = true) (h : ∀ x, zK X w R M Z n (l0 :: l1 :: l2 :: l3 :: l4 :: l5 :: l6 :: l7 :: l8 :: l9 :: l10 :: some (.ref x) :: Lr) st σ (kf x)) : zK X w R M Z pc (l0 :: l1 :: l2 :: l3 :: l4 :: l5 :: l6 :: l7 :: l8 :: l9 :: l10 :: l11 :: Lr) (.ref v :: st) σ (zlt v kf) := by
  subst hn
  intro r σ' hk p e s m args below meth c C H locs ls hP hS hl
  exact lv_astore (i := 11) C.hx C.hb (C.dec hd) (zl_has hl) (by simp only [List.map_cons, List.length_cons]; omega) rfl (fun ls' hl' => h v r σ' hk p e s m args below meth c C H locs ls' hP hS (zset1 (L := l0 :: l1 :: l2 :: l3 :: l4 :: l5 :: l6 :: l7 :: l8 :: l9 :: l10 :: l11 :: Lr) (j := 11) (v := .ref v) hp hl'))
theorem z_lstore11 (i n : Nat) {v : Int64} {kf : Int64 → Option (ρ × zS)} {l0 l1 l2 l3 l4 l5 l6 l7 l8 l9 l10 l11 l12 : Option Value} {Lr : List (Option Value)} (hd : M.2.2.2.2[i]? = some (pc, .lstore 11, 2)) (hn : pc + 2 = n) (hp : zn l10 = true) (h : ∀ x, zK X w R M Z n (l0 :: l1 :: l2 :: l3 :: l4 :: l5 :: l6 :: l7 :: l8 :: l9 :: l10 :: some (.long x) :: none :: Lr) st σ (kf x)) : zK X w R M Z pc (l0 :: l1 :: l2 :: l3 :: l4 :: l5 :: l6 :: l7 :: l8 :: l9 :: l10 :: l11 :: l12 :: Lr) (.long v :: st) σ (zlt v kf) := by
  subst hn
  intro r σ' hk p e s m args below meth c C H locs ls hP hS hl
  exact lv_lstore (i := 11) C.hx C.hb (C.dec hd) (zl_has hl) (by simp only [List.map_cons, List.length_cons]; omega) rfl (fun ls' hl' => h v r σ' hk p e s m args below meth c C H locs ls' hP hS (zset2 (L := l0 :: l1 :: l2 :: l3 :: l4 :: l5 :: l6 :: l7 :: l8 :: l9 :: l10 :: l11 :: l12 :: Lr) (j := 11) (v := .long v) hp hl'))
theorem z_iinc11 (i n : Nat) {x v : Int32} {a : Int} {kf : Int32 → Option (ρ × zS)} {l0 l1 l2 l3 l4 l5 l6 l7 l8 l9 l10 : Option Value} {Lr : List (Option Value)} (hd : M.2.2.2.2[i]? = some (pc, .iinc 11 a, 3)) (hn : pc + 3 = n) (ha : Int32.ofInt a = v) (hp : zn l10 = true) (h : ∀ y, zK X w R M Z n (l0 :: l1 :: l2 :: l3 :: l4 :: l5 :: l6 :: l7 :: l8 :: l9 :: l10 :: some (.int y) :: Lr) st σ (kf y)) : zK X w R M Z pc (l0 :: l1 :: l2 :: l3 :: l4 :: l5 :: l6 :: l7 :: l8 :: l9 :: l10 :: some (.int x) :: Lr) st σ (zlt (x + v) kf) := by
  subst hn; subst ha
  intro r σ' hk p e s m args below meth c C H locs ls hP hS hl
  obtain ⟨q, hq⟩ := List.getElem?_of_mem (zprs_mem.mpr (zl_map' (X := X) (L := l0 :: l1 :: l2 :: l3 :: l4 :: l5 :: l6 :: l7 :: l8 :: l9 :: l10 :: some (.int x) :: Lr) (i := 11) (u := .int x) rfl))
  exact lv_iinc C.hx C.hb (C.dec hd) (zl_has hl) hq rfl (by simp only [List.map_cons, List.length_cons]; omega) rfl (fun ls' hl' => h (x + Int32.ofInt a) r σ' hk p e s m args below meth c C H locs ls' hP hS (zset1 (L := l0 :: l1 :: l2 :: l3 :: l4 :: l5 :: l6 :: l7 :: l8 :: l9 :: l10 :: some (.int x) :: Lr) (j := 11) (v := .int (x + Int32.ofInt a)) hp hl'))
theorem z_iload12 (i n : Nat) {x : Int32} {l0 l1 l2 l3 l4 l5 l6 l7 l8 l9 l10 l11 : Option Value} {Lr : List (Option Value)} (hd : M.2.2.2.2[i]? = some (pc, .iload 12, 2)) (hn : pc + 2 = n) (h : zK X w R M Z n (l0 :: l1 :: l2 :: l3 :: l4 :: l5 :: l6 :: l7 :: l8 :: l9 :: l10 :: l11 :: some (.int x) :: Lr) (.int x :: st) σ k) : zK X w R M Z pc (l0 :: l1 :: l2 :: l3 :: l4 :: l5 :: l6 :: l7 :: l8 :: l9 :: l10 :: l11 :: some (.int x) :: Lr) st σ k := by
  subst hn
  intro r σ' hk p e s m args below meth c C H locs ls hP hS hl
  exact lv_iload C.hx C.hb (C.dec hd) (zl_at hl (i := 12) rfl) (h r σ' hk p e s m args below meth c C H locs ls hP hS hl)
theorem z_aload12 (i n : Nat) {x : Nat} {l0 l1 l2 l3 l4 l5 l6 l7 l8 l9 l10 l11 : Option Value} {Lr : List (Option Value)} (hd : M.2.2.2.2[i]? = some (pc, .aload 12, 2)) (hn : pc + 2 = n) (h : zK X w R M Z n (l0 :: l1 :: l2 :: l3 :: l4 :: l5 :: l6 :: l7 :: l8 :: l9 :: l10 :: l11 :: some (.ref x) :: Lr) (.ref x :: st) σ k) : zK X w R M Z pc (l0 :: l1 :: l2 :: l3 :: l4 :: l5 :: l6 :: l7 :: l8 :: l9 :: l10 :: l11 :: some (.ref x) :: Lr) st σ k := by
  subst hn
  intro r σ' hk p e s m args below meth c C H locs ls hP hS hl
  exact lv_aload C.hx C.hb (C.dec hd) (zl_at hl (i := 12) rfl) (h r σ' hk p e s m args below meth c C H locs ls hP hS hl)
theorem z_lload12 (i n : Nat) {x : Int64} {l0 l1 l2 l3 l4 l5 l6 l7 l8 l9 l10 l11 : Option Value} {Lr : List (Option Value)} (hd : M.2.2.2.2[i]? = some (pc, .lload 12, 2)) (hn : pc + 2 = n) (h : zK X w R M Z n (l0 :: l1 :: l2 :: l3 :: l4 :: l5 :: l6 :: l7 :: l8 :: l9 :: l10 :: l11 :: some (.long x) :: Lr) (.long x :: st) σ k) : zK X w R M Z pc (l0 :: l1 :: l2 :: l3 :: l4 :: l5 :: l6 :: l7 :: l8 :: l9 :: l10 :: l11 :: some (.long x) :: Lr) st σ k := by
  subst hn
  intro r σ' hk p e s m args below meth c C H locs ls hP hS hl
  exact lv_lload C.hx C.hb (C.dec hd) (zl_at hl (i := 12) rfl) (h r σ' hk p e s m args below meth c C H locs ls hP hS hl)
theorem z_istore12 (i n : Nat) {v : Int32} {kf : Int32 → Option (ρ × zS)} {l0 l1 l2 l3 l4 l5 l6 l7 l8 l9 l10 l11 l12 : Option Value} {Lr : List (Option Value)} (hd : M.2.2.2.2[i]? = some (pc, .istore 12, 2)) (hn : pc + 2 = n) (hp : zn l11 = true) (h : ∀ x, zK X w R M Z n (l0 :: l1 :: l2 :: l3 :: l4 :: l5 :: l6 :: l7 :: l8 :: l9 :: l10 :: l11 :: some (.int x) :: Lr) st σ (kf x)) : zK X w R M Z pc (l0 :: l1 :: l2 :: l3 :: l4 :: l5 :: l6 :: l7 :: l8 :: l9 :: l10 :: l11 :: l12 :: Lr) (.int v :: st) σ (zlt v kf) := by
  subst hn
  intro r σ' hk p e s m args below meth c C H locs ls hP hS hl
  exact lv_istore (i := 12) C.hx C.hb (C.dec hd) (zl_has hl) (by simp only [List.map_cons, List.length_cons]; omega) rfl (fun ls' hl' => h v r σ' hk p e s m args below meth c C H locs ls' hP hS (zset1 (L := l0 :: l1 :: l2 :: l3 :: l4 :: l5 :: l6 :: l7 :: l8 :: l9 :: l10 :: l11 :: l12 :: Lr) (j := 12) (v := .int v) hp hl'))
theorem z_astore12 (i n : Nat) {v : Nat} {kf : Nat → Option (ρ × zS)} {l0 l1 l2 l3 l4 l5 l6 l7 l8 l9 l10 l11 l12 : Option Value} {Lr : List (Option Value)} (hd : M.2.2.2.2[i]? = some (pc, .astore 12, 2)) (hn : pc + 2 = n) (hp : zn l11 = true) (h : ∀ x, zK X w R M Z n (l0 :: l1 :: l2 :: l3 :: l4 :: l5 :: l6 :: l7 :: l8 :: l9 :: l10 :: l11 :: some (.ref x) :: Lr) st σ (kf x)) : zK X w R M Z pc (l0 :: l1 :: l2 :: l3 :: l4 :: l5 :: l6 :: l7 :: l8 :: l9 :: l10 :: l11 :: l12 :: Lr) (.ref v :: st) σ (zlt v kf) := by
  subst hn
  intro r σ' hk p e s m args below meth c C H locs ls hP hS hl
  exact lv_astore (i := 12) C.hx C.hb (C.dec hd) (zl_has hl) (by simp only [List.map_cons, List.length_cons]; omega) rfl (fun ls' hl' => h v r σ' hk p e s m args below meth c C H locs ls' hP hS (zset1 (L := l0 :: l1 :: l2 :: l3 :: l4 :: l5 :: l6 :: l7 :: l8 :: l9 :: l10 :: l11 :: l12 :: Lr) (j := 12) (v := .ref v) hp hl'))
theorem z_lstore12 (i n : Nat) {v : Int64} {kf : Int64 → Option (ρ × zS)} {l0 l1 l2 l3 l4 l5 l6 l7 l8 l9 l10 l11 l12 l13 : Option Value} {Lr : List (Option Value)} (hd : M.2.2.2.2[i]? = some (pc, .lstore 12, 2)) (hn : pc + 2 = n) (hp : zn l11 = true) (h : ∀ x, zK X w R M Z n (l0 :: l1 :: l2 :: l3 :: l4 :: l5 :: l6 :: l7 :: l8 :: l9 :: l10 :: l11 :: some (.long x) :: none :: Lr) st σ (kf x)) : zK X w R M Z pc (l0 :: l1 :: l2 :: l3 :: l4 :: l5 :: l6 :: l7 :: l8 :: l9 :: l10 :: l11 :: l12 :: l13 :: Lr) (.long v :: st) σ (zlt v kf) := by
  subst hn
  intro r σ' hk p e s m args below meth c C H locs ls hP hS hl
  exact lv_lstore (i := 12) C.hx C.hb (C.dec hd) (zl_has hl) (by simp only [List.map_cons, List.length_cons]; omega) rfl (fun ls' hl' => h v r σ' hk p e s m args below meth c C H locs ls' hP hS (zset2 (L := l0 :: l1 :: l2 :: l3 :: l4 :: l5 :: l6 :: l7 :: l8 :: l9 :: l10 :: l11 :: l12 :: l13 :: Lr) (j := 12) (v := .long v) hp hl'))
theorem z_iinc12 (i n : Nat) {x v : Int32} {a : Int} {kf : Int32 → Option (ρ × zS)} {l0 l1 l2 l3 l4 l5 l6 l7 l8 l9 l10 l11 : Option Value} {Lr : List (Option Value)} (hd : M.2.2.2.2[i]? = some (pc, .iinc 12 a, 3)) (hn : pc + 3 = n) (ha : Int32.ofInt a = v) (hp : zn l11 = true) (h : ∀ y, zK X w R M Z n (l0 :: l1 :: l2 :: l3 :: l4 :: l5 :: l6 :: l7 :: l8 :: l9 :: l10 :: l11 :: some (.int y) :: Lr) st σ (kf y)) : zK X w R M Z pc (l0 :: l1 :: l2 :: l3 :: l4 :: l5 :: l6 :: l7 :: l8 :: l9 :: l10 :: l11 :: some (.int x) :: Lr) st σ (zlt (x + v) kf) := by
  subst hn; subst ha
  intro r σ' hk p e s m args below meth c C H locs ls hP hS hl
  obtain ⟨q, hq⟩ := List.getElem?_of_mem (zprs_mem.mpr (zl_map' (X := X) (L := l0 :: l1 :: l2 :: l3 :: l4 :: l5 :: l6 :: l7 :: l8 :: l9 :: l10 :: l11 :: some (.int x) :: Lr) (i := 12) (u := .int x) rfl))
  exact lv_iinc C.hx C.hb (C.dec hd) (zl_has hl) hq rfl (by simp only [List.map_cons, List.length_cons]; omega) rfl (fun ls' hl' => h (x + Int32.ofInt a) r σ' hk p e s m args below meth c C H locs ls' hP hS (zset1 (L := l0 :: l1 :: l2 :: l3 :: l4 :: l5 :: l6 :: l7 :: l8 :: l9 :: l10 :: l11 :: some (.int x) :: Lr) (j := 12) (v := .int (x + Int32.ofInt a)) hp hl'))
end ZR
