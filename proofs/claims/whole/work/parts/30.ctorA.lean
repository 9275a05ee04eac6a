def znests : List (String × Nat × MethodName × String) := [("PostScripts", 11, ⟨"PostScripts$Reade\x72", "<init>", "()V"⟩, "PostScripts"), ("PostScripts$Reade\x72", 11, ⟨"PostScripts$Tape", "<init>", "()V"⟩, "PostScripts"), ("PostScripts$Reade\x72", 20, ⟨"PostScripts$Names", "<init>", "()V"⟩, "PostScripts"), ("PostScripts$Reade\x72", 27, ⟨"PostScripts$Lette\x72", "<init>", "()V"⟩, "PostScripts"), ("PostScripts$Lette\x72", 35, ⟨"PostScripts$Page", "<init>", "()V"⟩, "PostScripts"), ("PostScripts$Lette\x72", 42, ⟨"PostScripts$Bids", "<init>", "()V"⟩, "PostScripts"), ("PostScripts", 18, ⟨"PostScripts$Orde\x72", "<init>", "()V"⟩, "PostScripts"), ("PostScripts", 28, ⟨"PostScripts$Page", "<init>", "()V"⟩, "PostScripts"), ("PostScripts", 39, ⟨"PostScripts$Past", "<init>", "()V"⟩, "PostScripts"), ("PostScripts", 46, ⟨"PostScripts$Fillings", "<init>", "()V"⟩, "PostScripts"), ("PostScripts", 53, ⟨"PostScripts$Duel", "<init>", "()V"⟩, "PostScripts"), ("PostScripts", 60, ⟨"PostScripts$Lette\x72", "<init>", "()V"⟩, "PostScripts")]
def zNs (U : State) : Prop := (∀ q ∈ znests, va_Nw (.methodLinkNest q.1 q.2.1 q.2.2.1 q.2.2.2) U) ∧ va_AO "PostScripts$Page" U
theorem zNs.warm {s U : State} (hW : s.WarmedH U.vm) (h : zNs s) : zNs U := ⟨fun q hq => va_Nw.warmM hW (h.1 q hq), va_AO.moved hW.alike h.2⟩
def zval (X : zX) (b : Nat) : Value := if b = 3000 then .null else .ref (za X b)
def zfn (X : zX) (σ : zS) (a ci : Nat) : List Value := (zf ci).mapIdx (fun k b => if b = true then zval X (σ.2 a k) else .int (σ.1 a k))
def zEn (X : zX) (σ : zS) (a : Nat) (g : Nat × Nat) : va_E :=
  if g.1 < 100 then .inr (g.1, zfn X σ a g.1)
  else if g.1 = 103 then .inl (X.2.2.2.1 3, g.2, .inr (.inr (.inr (.inr (fun j => if σ.2 a j = 3000 then none else some (za X (σ.2 a j)))))))
  else .inl (X.2.2.2.1 (g.1 - 100), g.2, .inl (fun j => σ.1 a j))
/-- a world that grows: the kinds of its cells, what they hold; 3000 is null -/
abbrev zN : Type := List (Nat × Nat) × zS
def zgd (S : zN) (a : Nat) : Nat × Nat := S.1.getD a (999, 0)
def zwn (X : zX) (S : zN) : va_W := (List.range S.1.length).map (fun a => (za X a, zEn X S.2 a (zgd S a)))
def zfr (S : zN) : Prop := ∀ a, S.1.length ≤ a → ∀ k, S.2.1 a k = 0 ∧ S.2.2 a k = 3000
def zAb (B : Nat) : Nat → Prop := fun q => B ≤ q
def zI (X : zX) (S : zN) (H : Heap) : Prop := va_P X.2.1 vwCl (zwn X S) H ∧ zfr S
def zAd (X : zX) (B : Nat) : Prop := ∀ k, X.2.2.1 k = B + k
def zBn (X : zX) (B : Nat) (S : zN) (U : State) : Prop := zI X S U.heap ∧ va_K X.2.1 vwCl (zt X) U ∧ zAd X B ∧ zNs U
def zQn (X : zX) (B : Nat) (S : zN) : Array Value → State → Outcome → State → Prop := fun _ st oc t => (oc = .returned none ∧ zBn X B S t) ∧ va_F (zAb B) st t
def zrn (d mc ms : Nat) : Room := { frames := d, cells := mc, slots := ms, locals := 40 * d }
def zCI (X : zX) (B d : Nat) (M : zM) (a : Nat) (S S' : zN) (mc ms : Nat) : Prop :=
  Met X.1 M.1 (Cond.code M.1 M.2.1 M.2.2.1 M.2.2.2.1 :: zTT) (zrn d mc ms) (va_Pc [.ref (za X a)] (fun U => U.heap.size = B + S.1.length ∧ zBn X B S U)) (zQn X B S') mc ms (zAb B)
/-- the steps -/
def sA (g : Nat × Nat) (S : zN) : zN := (S.1 ++ [g], S.2)
def sR (a k v : Nat) (S : zN) : zN := (S.1, zpr S.2 a k v)
def sI (a k : Nat) (v : Int32) (S : zN) : zN := (S.1, zpi S.2 a k v)
def sF (a k : Nat) (g : Nat × Nat) (S : zN) : zN := sR a k S.1.length (sA g S)
def sO (f : Nat → zN → zN) (a k : Nat) (g : Nat × Nat) (S : zN) : zN := sR a k S.1.length (f S.1.length (sA g S))
theorem zwn_get {X : zX} {S : zN} {a : Nat} (h : a < S.1.length) : (zwn X S)[a]? = some (za X a, zEn X S.2 a (zgd S a)) := by simp [zwn, h]
theorem za_of {X : zX} {B a : Nat} (hB : zAd X B) (h : a < 1000) : za X a = B + a := by unfold za; rw [if_pos h, hB]
theorem zwn_D {X : zX} {B : Nat} {S : zN} (hB : zAd X B) (hn : S.1.length ≤ 1000) : va_D (zAb B) (zwn X S) := by
  have key : ∀ (i : Nat) (p : Nat × va_E), (zwn X S)[i]? = some p → i < S.1.length ∧ p.1 = B + i := by
    intro i p hp
    have hi : i < S.1.length := by
      have := (List.getElem?_eq_some_iff.mp hp).1
      simpa [zwn] using this
    rw [zwn_get hi] at hp
    cases hp
    exact ⟨hi, za_of hB (by omega)⟩
  refine ⟨fun i j p q hp hq e => ?_, fun k q hq => ?_⟩
  · obtain ⟨h1, h2⟩ := key i p hp
    obtain ⟨h3, h4⟩ := key j q hq
    omega
  · obtain ⟨h1, h2⟩ := key k q hq
    show B ≤ q.1
    omega
theorem zwn_set {X : zX} {S : zN} {τ : zS} {a : Nat} {e : va_E} (ha : a < S.1.length) (he : e = zEn X τ a (zgd S a)) (h1 : ∀ b, b ≠ a → ∀ j, τ.1 b j = S.2.1 b j) (h2 : ∀ b, b ≠ a → ∀ j, τ.2 b j = S.2.2 b j) : (zwn X S).set a (za X a, e) = zwn X (S.1, τ) := by
  apply List.ext_getElem?
  intro i
  rw [List.getElem?_set]
  by_cases hi : a = i
  · subst hi
    have : a < (zwn X S).length := by simpa [zwn] using ha
    rw [if_pos rfl, if_pos this, zwn_get (S := (S.1, τ)) ha, he]
    rfl
  · rw [if_neg hi]
    by_cases hl : i < S.1.length
    · rw [zwn_get hl, zwn_get (S := (S.1, τ)) hl]
      have hne : i ≠ a := fun e => hi e.symm
      have : zEn X S.2 i (zgd S i) = zEn X τ i (zgd (S.1, τ) i) := by
        show zEn X S.2 i (zgd S i) = zEn X τ i (zgd S i)
        simp only [zEn, zfn, h1 i hne, h2 i hne]
      rw [this]
    · have e1 : ∀ τ' : zS, (zwn X (S.1, τ'))[i]? = none := fun τ' => by simp [zwn]; omega
      rw [e1 τ, show (zwn X S)[i]? = none from e1 S.2]
theorem zwn_push {X : zX} {S : zN} {g : Nat × Nat} : zwn X (sA g S) = zwn X S ++ [(za X S.1.length, zEn X S.2 S.1.length g)] := by
  unfold zwn sA
  simp only [List.length_append, List.length_cons, List.length_nil, List.range_succ, List.map_append, List.map_cons, List.map_nil]
  have e1 : ∀ a, a < S.1.length → zgd (S.1 ++ [g], S.2) a = zgd S a := by
    intro a ha
    unfold zgd
    rw [List.getD_eq_getElem?_getD, List.getElem?_append_left ha, ← List.getD_eq_getElem?_getD]
  have e2 : zgd (S.1 ++ [g], S.2) S.1.length = g := by
    unfold zgd
    rw [List.getD_eq_getElem?_getD, List.getElem?_append_right (Nat.le_refl _), Nat.sub_self]
    rfl
  rw [e2]
  congr 1
  apply List.map_congr_left
  intro a ha
  rw [e1 a (List.mem_range.mp ha)]
theorem zI_push {X : zX} {B : Nat} {S : zN} {H H1 : Heap} (hB : zAd X B) (hn : S.1.length < 1000) (h : zI X S H) (hz : H.size = B + S.1.length) (g : Nat × Nat) (h1 : va_at X.2.1 vwCl (B + S.1.length, zEn X S.2 S.1.length g) H1) (z1 : H1.size = B + S.1.length + 1) (o1 : ∀ q, q < B + S.1.length → H1[q]? = H[q]?) : zI X (sA g S) H1 := by
  obtain ⟨hP, hf⟩ := h
  refine ⟨?_, fun a ha k => hf a (by simp [sA] at ha; omega) k⟩
  rw [zwn_push]
  refine va_P.app (hP.kept fun k x hx => o1 x.1 ?_) (fun k x hx => ?_)
  · rw [← hz]; exact (hP k x hx).lt
  · have hk : k < 1 := (List.getElem?_eq_some_iff.mp hx).1
    rw [show k = 0 by omega] at hx
    cases hx
    rw [za_of hB hn]
    exact h1
theorem zS_push {B : Nat} {H0 H H1 : Heap} {locs : List Loc} {n : Nat} (hS : va_S (zAb B) H0 H locs) (hz : H.size = B + n) (z1 : H1.size = B + n + 1) (o1 : ∀ q, q < B + n → H1[q]? = H[q]?) : va_S (zAb B) H0 H1 locs :=
  ⟨Nat.le_trans hS.1 (by omega), fun q g1 g2 => (o1 q (by have := hS.1; omega)).trans (hS.2.1 q g1 g2), hS.2.2⟩
/-- a constructor's own frame -/
def zCi (X : zX) (B : Nat) (M : zM) (p : Program) (s : State) (m : MethodId) (args : Array Value) (meth : Method) (c : Code) : Prop :=
  p.tables.exec = Jvm.exec ∧ c.code = M.2.1 ∧ c.maxLocals = M.2.2.1 ∧ meth.sig.returnType = M.2.2.2.1 ∧ meth.locks = false ∧ s.vm.findClass M.1.cls = some m.cls ∧
  (∀ w ∈ zTT, w.before args s = true) ∧ va_K X.2.1 vwCl (zt X) s ∧ zAd X B ∧ zNs s ∧ zT M ∧ meth.name = "<init>"
section ZCI
variable {X : zX} {B : Nat} {M : zM} {p : Program} {s : State} {m : MethodId} {args : Array Value} {meth : Method} {c : Code}
theorem zCi.hx (C : zCi X B M p s m args meth c) : p.tables.exec = Jvm.exec := C.1
theorem zCi.hb (C : zCi X B M p s m args meth c) : c.code = M.2.1 := C.2.1
theorem zCi.hml (C : zCi X B M p s m args meth c) : c.maxLocals = M.2.2.1 := C.2.2.1
theorem zCi.hr (C : zCi X B M p s m args meth c) : meth.sig.returnType = M.2.2.2.1 := C.2.2.2.1
theorem zCi.hlk (C : zCi X B M p s m args meth c) : meth.locks = false := C.2.2.2.2.1
theorem zCi.hown (C : zCi X B M p s m args meth c) : s.vm.findClass M.1.cls = some m.cls := C.2.2.2.2.2.1
theorem zCi.hts (C : zCi X B M p s m args meth c) : ∀ w ∈ zTT, w.before args s = true := C.2.2.2.2.2.2.1
theorem zCi.hK (C : zCi X B M p s m args meth c) : va_K X.2.1 vwCl (zt X) s := C.2.2.2.2.2.2.2.1
theorem zCi.hA (C : zCi X B M p s m args meth c) : zAd X B := C.2.2.2.2.2.2.2.2.1
theorem zCi.hN (C : zCi X B M p s m args meth c) : zNs s := C.2.2.2.2.2.2.2.2.2.1
theorem zCi.dec (C : zCi X B M p s m args meth c) {i pc n : Nat} {g : Instr} (h : M.2.2.2.2[i]? = some (pc, g, n)) : decode M.2.1 pc = .ok (g, n) := C.2.2.2.2.2.2.2.2.2.2.1 i (pc, g, n) h
theorem zCi.hin (C : zCi X B M p s m args meth c) : meth.name = "<init>" := C.2.2.2.2.2.2.2.2.2.2.2
end ZCI
/-- the judgement of a constructor's walk -/
def zGn (X : zX) (B : Nat) (R : Room) (M : zM) (mc ms : Nat) (Sf : zN) (pc : Nat) (L : List (Option Value)) (st : List Value) (S : zN) (cells slots : Nat) : Prop :=
  ∀ (p : Program) (e : Env) (s : State) (m : MethodId) (args : Array Value) (below : List Frame) (meth : Method) (c : Code), zCi X B M p s m args meth c → s.heap.size + cells = B + S.1.length ∧ 0 < S.1.length ∧ S.1.length ≤ 1000 →
  ∀ (H : Heap) (locs : List Loc) (ls : Array Slot), zI X S H → va_S (zAb B) s.heap H locs → zl ls (L.map (Option.map (zv X))) →
  W p X.1 e R s m args below meth c H locs cells slots (MQ below (zQn X B Sf) args s mc ms (zAb B)) (F0 m pc ls (st.map (zv X)))
theorem W_sized {p : Program} {l : Launch} {e : Env} {R : Room} {s : State} {m : MethodId} {args : Array Value} {below : List Frame} {meth : Method} {c : Code} {H : Heap} {locs : List Loc} {cells slots : Nat} {Q : State → Prop} {g : JFrame} (h : H.size ≤ s.heap.size + cells → W p l e R s m args below meth c H locs cells slots Q g) : W p l e R s m args below meth c H locs cells slots Q g :=
  fun T hT X => h (by rw [← hT]; exact X.heapSize) T hT X
theorem zI_ge {X : zX} {B : Nat} {S : zN} {H : Heap} (hB : zAd X B) (h : zI X S H) (h0 : 0 < S.1.length) (hn : S.1.length ≤ 1000) : B + S.1.length ≤ H.size := by
  have := (h.1 (S.1.length - 1) _ (zwn_get (by omega))).lt
  rw [za_of hB (by omega)] at this
  omega
section ZGN
variable {X : zX} {B : Nat} {R : Room} {M : zM} {mc ms : Nat} {Sf : zN} {pc : Nat} {L : List (Option Value)} {st : List Value} {S : zN} {cells slots : Nat}
theorem n_aload0 (i n : Nat) {x : Nat} {Lr : List (Option Value)} (hd : M.2.2.2.2[i]? = some (pc, .aload_n 0, 1)) (hn : pc + 1 = n) (h : zGn X B R M mc ms Sf n (some (.ref x) :: Lr) (.ref x :: st) S cells slots) : zGn X B R M mc ms Sf pc (some (.ref x) :: Lr) st S cells slots := by
  subst hn
  intro p e s m args below meth c C hq H locs ls hP hS hl
  exact lv_aload_n C.hx C.hb (C.dec hd) rfl (zl_at hl (i := 0) rfl) (h p e s m args below meth c C hq H locs ls hP hS hl)
theorem n_iconst (i n : Nat) {a : Int} {v : Int32} (hd : M.2.2.2.2[i]? = some (pc, .iconst a, 1)) (hn : pc + 1 = n) (hv : Int32.ofInt a = v) (h : zGn X B R M mc ms Sf n L (.int v :: st) S cells slots) : zGn X B R M mc ms Sf pc L st S cells slots := by
  subst hn
  intro p e s m args below meth c C hq H locs ls hP hS hl
  exact lv_iconst C.hx C.hb (C.dec hd) hv (h p e s m args below meth c C hq H locs ls hP hS hl)
theorem n_bipush (i n : Nat) {a : Int} {v : Int32} (hd : M.2.2.2.2[i]? = some (pc, .bipush a, 2)) (hn : pc + 2 = n) (hv : (Int8.ofInt a).toInt32 = v) (h : zGn X B R M mc ms Sf n L (.int v :: st) S cells slots) : zGn X B R M mc ms Sf pc L st S cells slots := by
  subst hn
  intro p e s m args below meth c C hq H locs ls hP hS hl
  exact lv_bipush C.hx C.hb (C.dec hd) hv (h p e s m args below meth c C hq H locs ls hP hS hl)
theorem n_sipush (i n : Nat) {a : Int} {v : Int32} (hd : M.2.2.2.2[i]? = some (pc, .sipush a, 3)) (hn : pc + 3 = n) (hv : (Int16.ofInt a).toInt32 = v) (h : zGn X B R M mc ms Sf n L (.int v :: st) S cells slots) : zGn X B R M mc ms Sf pc L st S cells slots := by
  subst hn
  intro p e s m args below meth c C hq H locs ls hP hS hl
  exact lv_sipush C.hx C.hb (C.dec hd) hv (h p e s m args below meth c C hq H locs ls hP hS hl)
theorem n_dup (i n : Nat) {v : Value} (hd : M.2.2.2.2[i]? = some (pc, .dup, 1)) (hn : pc + 1 = n) (hv : v.category = 1) (h : zGn X B R M mc ms Sf n L (v :: v :: st) S cells slots) : zGn X B R M mc ms Sf pc L (v :: st) S cells slots := by
  subst hn
  intro p e s m args below meth c C hq H locs ls hP hS hl
  exact lv_dup C.hx C.hb (C.dec hd) ((zv_cat X v).trans hv) (h p e s m args below meth c C hq H locs ls hP hS hl)
theorem n_objInit (i n : Nat) {x ix : Nat} (hd : M.2.2.2.2[i]? = some (pc, .invokespecial ix, 3)) (hn : pc + 3 = n) (hlk : Cond.methodLink M.1.cls ix Lib.objectInit ∈ zTT) (hR : 1 ≤ R.frames ∧ 40 ≤ R.locals) (hLn : L.length = M.2.2.1) (h : zGn X B R M mc ms Sf n L [] S cells slots) : zGn X B R M mc ms Sf pc L [.ref x] S cells slots := by
  subst hn
  intro p e s m args below meth c C hq H locs ls hP hS hl
  have h1 : Cond.instanceMethod Lib.objectInit ∈ zTT := zTT_in (i := 165) (by decide +kernel) rfl
  have h2 : Cond.code Lib.objectInit ⟨#[0xb1]⟩ 1 none ∈ zTT := zTT_in (i := 166) (by decide +kernel) rfl
  exact W.objInit (rest := []) C.hx C.hb C.hown (C.hts _ hlk) (C.hts _ h1) (C.hts _ h2) rfl (by rw [C.hml]; show ls.size = _; rw [hl.1]; simpa using hLn) rfl (C.dec hd) hR.1 (by show 2 * 0 + 0 + 12 ≤ _; have := hR.2; omega) (h p e s m args below meth c C hq H locs ls hP hS hl)
theorem n_vret (i : Nat) (hd : M.2.2.2.2[i]? = some (pc, .return_, 1)) (hr : M.2.2.2.1 = none) (hc : cells = mc) (hs : slots = ms) : zGn X B R M mc ms S pc L [] S cells slots := by
  subst hc; subst hs
  intro p e s m args below meth c C hq H locs ls hP hS hl
  exact W.vret C.hx C.hb (C.hr.trans hr) (fun t ht hW => ⟨⟨rfl, by rw [ht]; exact hP, va_K.moved hW.alike C.hK, C.hA, C.hN.warm hW⟩, hS.F ht⟩) hS.2.2 (C.dec hd) C.hlk
theorem n_newI (i n : Nat) {v : Int32} {N : Nat} (hd : M.2.2.2.2[i]? = some (pc, .newarray .int, 2)) (hn : pc + 2 = n) (hv : ¬ v < 0) (hN : v.toNatClampNeg = N) (hN2 : N ≤ 1000) (hl0 : S.1.length < 1000) (hc : cells + 1 ≤ R.cells) (hs : slots + N ≤ R.slots) (h : zGn X B R M mc ms Sf n L (.ref S.1.length :: st) (sA (100, N) S) (cells + 1) (slots + N)) : zGn X B R M mc ms Sf pc L (.int v :: st) S cells slots := by
  subst hn
  intro p e s m args below meth c C hq H locs ls hP hS hl
  refine W_sized (fun hsz => ?_)
  have hz : H.size = B + S.1.length := Nat.le_antisymm (by omega) (zI_ge C.hA hP hq.2.1 (by omega))
  have hq' : ∀ g : Nat × Nat, s.heap.size + (cells + 1) = B + (sA g S).1.length ∧ 0 < (sA g S).1.length ∧ (sA g S).1.length ≤ 1000 := fun g => by simp only [sA, List.length_append, List.length_cons, List.length_nil]; omega
  have hw : Cond.arrayClass .int ∈ zTT := zTT_in (i := 233) (by decide +kernel) rfl
  refine va_newaK (atype := .int) (h := B + S.1.length) C.hx C.hb (C.hts _ hw) rfl (C.dec hd) (rest := st.map (zv X)) rfl hv hN (by show N * 4 ≤ _; omega) hc hs hz (fun H1 cA e1 z1 o1 hAr hNm => ?_)
  have hcA : cA = X.2.2.2.1 0 := Option.some.inj (hNm.symm.trans (C.hK.2 0 _ rfl).2)
  subst hcA
  have hI := zI_push C.hA hl0 hP hz (100, N) (by
    show H1[B + S.1.length]? = some (vp_cell _ _)
    rw [e1]
    have : (fun j => S.2.1 S.1.length j) = fun _ => (0 : Int32) := funext fun j => (hP.2 _ (Nat.le_refl _) j).1
    show _ = some (vp_cell (X.2.2.2.1 0) (N, Sum.inl (fun j => S.2.1 S.1.length j)))
    rw [this]
    rfl) z1 o1
  have h1 := h p e s m args below meth c C (hq' _) H1 locs ls hI (zS_push hS hz z1 o1) hl
  rw [List.map_cons, show zv X (.ref S.1.length) = .ref (B + S.1.length) from by show Value.ref (za X _) = _; rw [za_of C.hA hl0]] at h1
  exact h1
theorem n_newB (i n : Nat) {v : Int32} {N : Nat} (hd : M.2.2.2.2[i]? = some (pc, .newarray .byte, 2)) (hn : pc + 2 = n) (hv : ¬ v < 0) (hN : v.toNatClampNeg = N) (hN2 : N ≤ 1000) (hl0 : S.1.length < 1000) (hc : cells + 1 ≤ R.cells) (hs : slots + N ≤ R.slots) (h : zGn X B R M mc ms Sf n L (.ref S.1.length :: st) (sA (101, N) S) (cells + 1) (slots + N)) : zGn X B R M mc ms Sf pc L (.int v :: st) S cells slots := by
  subst hn
  intro p e s m args below meth c C hq H locs ls hP hS hl
  refine W_sized (fun hsz => ?_)
  have hz : H.size = B + S.1.length := Nat.le_antisymm (by omega) (zI_ge C.hA hP hq.2.1 (by omega))
  have hq' : ∀ g : Nat × Nat, s.heap.size + (cells + 1) = B + (sA g S).1.length ∧ 0 < (sA g S).1.length ∧ (sA g S).1.length ≤ 1000 := fun g => by simp only [sA, List.length_append, List.length_cons, List.length_nil]; omega
  have hw : Cond.arrayClass .byte ∈ zTT := zTT_in (i := 207) (by decide +kernel) rfl
  refine va_newaK (atype := .byte) (h := B + S.1.length) C.hx C.hb (C.hts _ hw) rfl (C.dec hd) (rest := st.map (zv X)) rfl hv hN (by show N * 1 ≤ _; omega) hc hs hz (fun H1 cA e1 z1 o1 hAr hNm => ?_)
  have hcA : cA = X.2.2.2.1 1 := Option.some.inj (hNm.symm.trans (C.hK.2 1 _ rfl).2)
  subst hcA
  have hI := zI_push C.hA hl0 hP hz (101, N) (by
    show H1[B + S.1.length]? = some (vp_cell _ _)
    rw [e1]
    have : (fun j => S.2.1 S.1.length j) = fun _ => (0 : Int32) := funext fun j => (hP.2 _ (Nat.le_refl _) j).1
    show _ = some (vp_cell (X.2.2.2.1 1) (N, Sum.inl (fun j => S.2.1 S.1.length j)))
    rw [this]
    rfl) z1 o1
  have h1 := h p e s m args below meth c C (hq' _) H1 locs ls hI (zS_push hS hz z1 o1) hl
  rw [List.map_cons, show zv X (.ref S.1.length) = .ref (B + S.1.length) from by show Value.ref (za X _) = _; rw [za_of C.hA hl0]] at h1
  exact h1
theorem n_newO (i n : Nat) {ix ci : Nat} {q : vw_C} {ty : Nat → FieldType} (hd : M.2.2.2.2[i]? = some (pc, .new ix, 3)) (hn : pc + 3 = n) (hcl : zcl ci q ty) (hlk : Cond.classLink M.1.cls ix q.1 ∈ zTT) (hin : Cond.instantiable q.1 q.2.2 ∈ zTT) (hini : Cond.initialized q.1 ∈ zTT) (hty : ∀ k, k < q.2.2 → ∀ b, (zf ci)[k]? = some b → defaultValue (ty k) = if b = true then Value.null else .int 0) (hl0 : S.1.length < 1000) (hc : cells + 1 ≤ R.cells) (hs : slots + q.2.2 ≤ R.slots) (h : zGn X B R M mc ms Sf n L (.ref S.1.length :: st) (sA (ci, 0) S) (cells + 1) (slots + q.2.2)) : zGn X B R M mc ms Sf pc L st S cells slots := by
  subst hn
  obtain ⟨h5, h1, h6, h7, h4, h8⟩ := hcl
  intro p e s m args below meth c C hq H locs ls hP hS hl
  refine W_sized (fun hsz => ?_)
  have hz : H.size = B + S.1.length := Nat.le_antisymm (by omega) (zI_ge C.hA hP hq.2.1 (by omega))
  have hq' : ∀ g : Nat × Nat, s.heap.size + (cells + 1) = B + (sA g S).1.length ∧ 0 < (sA g S).1.length ∧ (sA g S).1.length ≤ 1000 := fun g => by simp only [sA, List.length_append, List.length_cons, List.length_nil]; omega
  have hKn := C.hK.1 ci _ h1
  refine W.newcK (h := B + S.1.length) C.hx C.hb C.hown (C.hts _ hlk) (C.hts _ hin) (C.hts _ hini) rfl (C.dec hd) hc hs hKn.2.1 hz (fun H1 kC hkC e1 z1 o1 => ?_)
  have hI := zI_push C.hA hl0 hP hz (ci, 0) (by
    have e2 : zEn X S.2 S.1.length (ci, 0) = .inr (ci, zfn X S.2 S.1.length ci) := by simp [zEn, h5]
    rw [e2]
    refine ⟨_, h1, (u_born ty C.hts h4 hKn hkC e1 h6).to (fun j hj => ?_)⟩
    obtain ⟨b, hb⟩ : ∃ b, (zf ci)[j]? = some b := ⟨(zf ci)[j]'(by rw [h8]; exact hj), List.getElem?_eq_getElem _⟩
    rw [hty j hj b hb]
    simp only [vp_V, zfn, List.getD_eq_getElem?_getD, List.getElem?_mapIdx, hb, Option.map_some, Option.getD_some]
    obtain ⟨f1, f2⟩ := hP.2 _ (Nat.le_refl _) j
    rw [f1, f2]
    rfl) z1 o1
  have h1 := h p e s m args below meth c C (hq' _) H1 locs ls hI (zS_push hS hz z1 o1) hl
  rw [List.map_cons, show zv X (.ref S.1.length) = .ref (B + S.1.length) from by show Value.ref (za X _) = _; rw [za_of C.hA hl0]] at h1
  exact h1
theorem n_newQ (i n : Nat) {ix : Nat} {v : Int32} {N : Nat} (hd : M.2.2.2.2[i]? = some (pc, .anewarray ix, 3)) (hn : pc + 3 = n) (hlk : Cond.classLink M.1.cls ix "PostScripts$Page" ∈ zTT) (hv : ¬ v < 0) (hN : v.toNatClampNeg = N) (hN2 : N ≤ 1000) (hl0 : S.1.length < 1000) (hc : cells + 1 ≤ R.cells) (hs : slots + N ≤ R.slots) (h : zGn X B R M mc ms Sf n L (.ref S.1.length :: st) (sA (103, N) S) (cells + 1) (slots + N)) : zGn X B R M mc ms Sf pc L (.int v :: st) S cells slots := by
  subst hn
  intro p e s m args below meth c C hq H locs ls hP hS hl
  refine W_sized (fun hsz => ?_)
  have hz : H.size = B + S.1.length := Nat.le_antisymm (by omega) (zI_ge C.hA hP hq.2.1 (by omega))
  have hq' : ∀ g : Nat × Nat, s.heap.size + (cells + 1) = B + (sA g S).1.length ∧ 0 < (sA g S).1.length ∧ (sA g S).1.length ≤ 1000 := fun g => by simp only [sA, List.length_append, List.length_cons, List.length_nil]; omega
  refine W.anew C.hx C.hb C.hown (C.hts _ hlk) (va_AO.use C.hN.2) rfl (C.dec hd) (rest := st.map (zv X)) rfl hv (by rw [hN]; omega) hc (by rw [hN]; exact hs) (fun cA kA comp f1 f2 f3 f4 => ?_)
  obtain ⟨kA', comp', g1, g2, g3, g4⟩ : va_RA s (X.2.2.2.1 3) (.object "PostScripts$Page") := (C.hK.2 2 _ rfl).2
  have hcA : cA = X.2.2.2.1 3 := Option.some.inj (f1.symm.trans g4)
  subst hcA
  rw [hN, hz]
  generalize hH1 : H.push ({ cls := X.2.2.2.1 3, slots := Array.replicate N .null, vm := .none } : Cell) = H1
  have z1 : H1.size = B + S.1.length + 1 := by rw [← hH1, Array.size_push, hz]
  have e1 : H1[B + S.1.length]? = some (arrV (X.2.2.2.1 3) N (fun _ => .null)) := by rw [← hH1, ← hz, Array.getElem?_push_size, ← arrV_new]
  have o1 : ∀ q : Nat, q < B + S.1.length → H1[q]? = H[q]? := fun q hq2 => by rw [← hH1, Array.getElem?_push, if_neg (Nat.ne_of_lt (by rw [hz]; exact hq2))]
  have hI := zI_push C.hA hl0 hP hz (103, N) (by
    show H1[B + S.1.length]? = some (vp_cell _ _)
    rw [e1]
    have : (fun j => if S.2.2 S.1.length j = 3000 then none else some (za X (S.2.2 S.1.length j))) = fun _ => (none : Option Nat) := funext fun j => by rw [if_pos (hP.2 _ (Nat.le_refl _) j).2]
    show _ = some (vp_cell (X.2.2.2.1 3) (N, Sum.inr (Sum.inr (Sum.inr (Sum.inr (fun j => if S.2.2 S.1.length j = 3000 then none else some (za X (S.2.2 S.1.length j))))))))
    rw [this]
    rfl) z1 o1
  have h1 := h p e s m args below meth c C (hq' _) H1 locs ls hI (zS_push hS hz z1 o1) hl
  rw [List.map_cons, show zv X (.ref S.1.length) = .ref (B + S.1.length) from by show Value.ref (za X _) = _; rw [za_of C.hA hl0]] at h1
  exact h1
theorem zfn_get {σ : zS} {a ci k : Nat} {b : Bool} (h : (zf ci)[k]? = some b) : (zfn X σ a ci)[k]? = some (if b = true then zval X (σ.2 a k) else .int (σ.1 a k)) := by
  simp [zfn, h]
theorem zfn_setR {σ : zS} {a ci k v : Nat} (h : (zf ci)[k]? = some true) (hv : v ≠ 3000) : (zfn X σ a ci).set k (.ref (za X v)) = zfn X (zpr σ a k v) a ci := by
  apply List.ext_getElem?
  intro i
  rw [List.getElem?_set]
  have hk : k < (zf ci).length := (List.getElem?_eq_some_iff.mp h).1
  by_cases hi : k = i
  · subst hi
    have : k < (zfn X σ a ci).length := by simpa [zfn] using hk
    rw [if_pos rfl, if_pos this, zfn_get h]
    simp [zpr, zval, hv]
  · rw [if_neg hi]
    simp only [zfn, List.getElem?_mapIdx, zpr]
    congr 1
    funext b
    have : ¬ (i = k) := fun e => hi e.symm
    simp [this]
theorem zfn_setI {σ : zS} {a ci k : Nat} {v : Int32} (h : (zf ci)[k]? = some false) : (zfn X σ a ci).set k (.int v) = zfn X (zpi σ a k v) a ci := by
  apply List.ext_getElem?
  intro i
  rw [List.getElem?_set]
  have hk : k < (zf ci).length := (List.getElem?_eq_some_iff.mp h).1
  by_cases hi : k = i
  · subst hi
    have : k < (zfn X σ a ci).length := by simpa [zfn] using hk
    rw [if_pos rfl, if_pos this, zfn_get h]
    simp [zpi]
  · rw [if_neg hi]
    simp only [zfn, List.getElem?_mapIdx, zpi]
    congr 1
    funext b
    have : ¬ (i = k) := fun e => hi e.symm
    simp [this]
theorem zEn_obj {σ : zS} {a ci : Nat} (h : ci < 100) : zEn X σ a (ci, 0) = .inr (ci, zfn X σ a ci) := by simp [zEn, h]
theorem zfr_R {a k v : Nat} (h : zfr S) (ha : a < S.1.length) : zfr (sR a k v S) := fun b hb j => by
  have hb' : S.1.length ≤ b := hb
  refine ⟨(h b hb' j).1, ?_⟩
  show (if b = a ∧ j = k then v else S.2.2 b j) = 3000
  rw [if_neg (fun q => by omega)]
  exact (h b hb' j).2
theorem zfr_I {a k : Nat} {v : Int32} (h : zfr S) (ha : a < S.1.length) : zfr (sI a k v S) := fun b hb j => by
  have hb' : S.1.length ≤ b := hb
  refine ⟨?_, (h b hb' j).2⟩
  show (if b = a ∧ j = k then v else S.2.1 b j) = 0
  rw [if_neg (fun q => by omega)]
  exact (h b hb' j).1
theorem zgd_lt {a : Nat} {g : Nat × Nat} (h : zgd S a = g) (hg : g ≠ (999, 0)) : a < S.1.length := by
  rcases Nat.lt_or_ge a S.1.length with q | q
  · exact q
  · exfalso
    apply hg
    rw [← h]
    unfold zgd
    rw [List.getD_eq_getElem?_getD, List.getElem?_eq_none q]
    rfl
/-- this.f = v, f final or not -/
theorem n_putR (i n fk : Nat) {a ci ix v : Nat} {q : vw_C} {ty : Nat → FieldType} (hd : M.2.2.2.2[i]? = some (pc, .putfield ix, 3)) (hn : pc + 3 = n) (hf : zF M.1.cls ix ci fk q ty) (hb : (zf ci)[fk]? = some true) (hown : (q.2.1 fk).1 = M.1.cls) (hty : ∀ z : Nat, narrow (ty fk) (.ref z) = .ref z ∧ fits (ty fk) (.ref z) = true) (hv : v ≠ 3000) (hl0 : S.1.length ≤ 1000) (hg : zgd S a = (ci, 0)) (h : zGn X B R M mc ms Sf n L st (sR a fk v S) cells slots) : zGn X B R M mc ms Sf pc L (.ref v :: .ref a :: st) S cells slots := by
  subst hn
  obtain ⟨⟨h5, h1, h6, h7, h4, h8⟩, h2, h3⟩ := hf
  intro p e s m args below meth c C hq H locs ls hP hS hl
  have ha : a < S.1.length := zgd_lt hg (fun z => by cases z; omega)
  have key : ∀ (H1 : Heap) (locs1 : List Loc), va_P X.2.1 vwCl ((zwn X S).set a (za X a, .inr (ci, (zfn X S.2 a ci).set fk (.ref (za X v))))) H1 → va_S (zAb B) s.heap H1 locs1 → W p X.1 e R s m args below meth c H1 locs1 cells slots (MQ below (zQn X B Sf) args s mc ms (zAb B)) (F0 m (pc + 3) ls (st.map (zv X))) := by
    intro H1 locs1 hP1 hS1
    refine h p e s m args below meth c C hq H1 locs1 ls ⟨?_, zfr_R hP.2 ha⟩ hS1 hl
    rw [zwn_set (X := X) (S := S) (τ := zpr S.2 a fk v) ha (by rw [hg, zEn_obj h5, zfn_setR hb hv]) (fun b _ j => rfl) zpr_o] at hP1
    exact hP1
  have hat : (zwn X S)[a]? = some (za X a, .inr (ci, zfn X S.2 a ci)) := by rw [zwn_get ha, hg, zEn_obj h5]
  have hlen : fk < (zfn X S.2 a ci).length := by simp [zfn, h8, h2]
  cases hfin : (q.2.1 fk).2.2.2 with
  | true =>
    refine va_putF (D := X.2.1) (v := .ref (za X v)) (ty := ty fk) (fs := zfn X S.2 a ci) (ci := ci) (C := q.1) (T := q.2.1) (N := q.2.2) C.hx C.hb C.hts h4 ty h6 h7 C.hown C.hK hP.1 (zwn_D C.hA hl0) hS a hat h1 fk h2 (C.hts _ h3) (fun _ h => h) hfin C.hin hown (h6 fk h2) (hty _).1 (hty _).2 hlen (C.dec hd) (fun H1 locs1 hP1 hD1 hS1 => ?_)
    exact key H1 locs1 hP1 hS1
  | false =>
    refine va_put (D := X.2.1) (v := .ref (za X v)) (ty := ty fk) (fs := zfn X S.2 a ci) (ci := ci) (C := q.1) (T := q.2.1) (N := q.2.2) C.hx C.hb C.hts h4 ty h6 h7 C.hown C.hK hP.1 (zwn_D C.hA hl0) hS a hat h1 fk h2 (C.hts _ h3) (fun _ h => h) hfin (h6 fk h2) (hty _).1 (hty _).2 hlen (C.dec hd) (fun H1 locs1 hP1 hD1 hS1 => ?_)
    exact key H1 locs1 hP1 hS1
theorem n_putI (i n fk : Nat) {a ci ix : Nat} {v : Int32} {q : vw_C} {ty : Nat → FieldType} (hd : M.2.2.2.2[i]? = some (pc, .putfield ix, 3)) (hn : pc + 3 = n) (hf : zF M.1.cls ix ci fk q ty) (hb : (zf ci)[fk]? = some false) (hfin : (q.2.1 fk).2.2.2 = false) (ht : ty fk = .int) (hl0 : S.1.length ≤ 1000) (hg : zgd S a = (ci, 0)) (h : zGn X B R M mc ms Sf n L st (sI a fk v S) cells slots) : zGn X B R M mc ms Sf pc L (.int v :: .ref a :: st) S cells slots := by
  subst hn
  obtain ⟨⟨h5, h1, h6, h7, h4, h8⟩, h2, h3⟩ := hf
  intro p e s m args below meth c C hq H locs ls hP hS hl
  have ha : a < S.1.length := zgd_lt hg (fun z => by cases z; omega)
  have hat : (zwn X S)[a]? = some (za X a, .inr (ci, zfn X S.2 a ci)) := by rw [zwn_get ha, hg, zEn_obj h5]
  have hlen : fk < (zfn X S.2 a ci).length := by simp [zfn, h8, h2]
  refine va_put (D := X.2.1) (v := .int v) (ty := .int) (fs := zfn X S.2 a ci) (ci := ci) (C := q.1) (T := q.2.1) (N := q.2.2) C.hx C.hb C.hts h4 ty h6 h7 C.hown C.hK hP.1 (zwn_D C.hA hl0) hS a hat h1 fk h2 (C.hts _ h3) (fun _ h => h) hfin (by rw [← ht]; exact h6 fk h2) rfl rfl hlen (C.dec hd) (fun H1 locs1 hP1 hD1 hS1 => ?_)
  refine h p e s m args below meth c C hq H1 locs1 ls ⟨?_, zfr_I hP.2 ha⟩ hS1 hl
  rw [zwn_set (X := X) (S := S) (τ := zpi S.2 a fk v) ha (by rw [hg, zEn_obj h5, zfn_setI hb]) zpi_o (fun b _ j => rfl)] at hP1
  exact hP1
def zMI (M : zM) : Prop := zMd M 0 ∧ Cond.instanceMethod M.1 ∈ zTT ∧ M.1.name = "<init>" ∧ M.2.2.2.1 = none
theorem zBn_blind {av : List Value} : FrameBlind (va_Pc av (fun U => U.heap.size = B + S.1.length ∧ zBn X B S U)) := fun a U g mk q =>
  ⟨q.1, q.2.1, q.2.2.1, va_K.moved (u := U) (U := U.calling g mk a) (Vm.Alike.refl U.vm) q.2.2.2.1, q.2.2.2.2.1, zNs.warm (s := U) (U := U.calling g mk a) (State.WarmedH.refl U) q.2.2.2.2.2⟩
theorem n_callI (i n : Nat) {M' : zM} {ix a d mc' ms' : Nat} {S' : zN} {host : String} (hd : M.2.2.2.2[i]? = some (pc, .invokespecial ix, 3)) (hn : pc + 3 = n) (hlk : (M.1.cls, ix, M'.1, host) ∈ znests) (hm : zMI M') (hR : zR R d) (hC : zCI X B d M' a S S' mc' ms') (hlen : S'.1.length = S.1.length + mc') (hl0 : S'.1.length ≤ 1000) (hLn : L.length = M.2.2.1) (hst : (st.map fun v => v.category).sum ≤ 8) (hf : cells + mc' ≤ R.cells ∧ slots + ms' ≤ R.slots) (h : zGn X B R M mc ms Sf n L st S' (cells + mc') (slots + ms')) : zGn X B R M mc ms Sf pc L (.ref a :: st) S cells slots := by
  subst hn
  intro p e s m args below meth c C hq H locs ls hP hS hl
  refine W_sized (fun hsz => ?_)
  have hz : H.size = B + S.1.length := Nat.le_antisymm (by omega) (zI_ge C.hA hP hq.2.1 hq.2.2)
  obtain ⟨⟨m1, m2, m3, m4⟩, m5, m6, m7⟩ := hm
  have hR2 : (zrn d mc' ms').frames + 1 ≤ R.frames ∧ 8 + (M'.2.2.1 + 11) + (zrn d mc' ms').locals ≤ R.locals := ⟨hR.1, by have := hR.2; show 8 + (M'.2.2.1 + 11) + 40 * d ≤ R.locals; omega⟩
  have hnw : va_Nw (.methodLinkNest M.1.cls ix M'.1 host) s := C.hN.1 _ hlk
  have hrun := va_runIN (p := p) (e := e) (below := below) (meth := meth) (H := H) (locs := locs) (cells := cells) (slots := slots) (As := []) (rest := st.map (zv X)) (b := za X a) (g := F0 m pc ls (.ref (za X a) :: st.map (zv X))) ⟨C.hx, C.hb, C.hml, C.hown, C.hts⟩ hC ⟨va_cnB 0 C.hts (zGood m1) (by rw [m7]) rfl rfl hnw (C.hts _ m2) m3 hR2, m6, C.hts _ m5⟩
    ⟨zBn_blind, fun U hU hW => ⟨rfl, by rw [hU]; exact hz, by rw [hU]; exact hP, va_K.moved hW.alike C.hK, C.hA, C.hN.warm hW⟩⟩ rfl rfl (by show ls.size = _; rw [hl.1]; simpa using hLn) rfl (by show 2 * 0 + _ ≤ 8; rw [zcat_map]; omega) (C.dec hd) hf
  intro T hT Xs
  obtain ⟨v, st₀, t, T', L', h0, X', hL, e1, e2, ⟨⟨hv, hB⟩, hz2, hk2⟩, stp⟩ := hrun T hT Xs
  cases hv
  rw [h0] at hz2 hk2
  obtain ⟨t2, a1, b1⟩ := h p e s m args below meth c C ⟨by omega, by omega, hl0⟩ T'.heap (locs ++ L') ls (by rw [e1]; exact hB.1) (zS_ext hS (by rw [e1]; exact hz2) (fun q g1 g2 => by rw [e1]; exact hk2 q g1 g2) (fun l hl => hL l hl)) hl T' rfl X'
  exact ⟨t2, stp t2 a1, b1⟩
theorem n_istore1 (i n : Nat) {v : Int32} {l0 l1 : Option Value} {Lr : List (Option Value)} (hd : M.2.2.2.2[i]? = some (pc, .istore_n 1, 1)) (hn : pc + 1 = n) (hp : zn l0 = true) (h : zGn X B R M mc ms Sf n (l0 :: some (.int v) :: Lr) st S cells slots) : zGn X B R M mc ms Sf pc (l0 :: l1 :: Lr) (.int v :: st) S cells slots := by
  subst hn
  intro p e s m args below meth c C hq H locs ls hP hS hl
  exact lv_istore_n (i := 1) C.hx C.hb (C.dec hd) rfl (zl_has hl) (by simp only [List.map_cons, List.length_cons]; omega) rfl (fun ls' hl' => h p e s m args below meth c C hq H locs ls' hP hS (zset1 (L := l0 :: l1 :: Lr) (j := 1) (v := .int v) hp hl'))
theorem n_iload1 (i n : Nat) {v : Int32} {l0 : Option Value} {Lr : List (Option Value)} (hd : M.2.2.2.2[i]? = some (pc, .iload_n 1, 1)) (hn : pc + 1 = n) (h : zGn X B R M mc ms Sf n (l0 :: some (.int v) :: Lr) (.int v :: st) S cells slots) : zGn X B R M mc ms Sf pc (l0 :: some (.int v) :: Lr) st S cells slots := by
  subst hn
  intro p e s m args below meth c C hq H locs ls hP hS hl
  exact lv_iload_n C.hx C.hb (C.dec hd) rfl (zl_at hl (i := 1) rfl) (h p e s m args below meth c C hq H locs ls hP hS hl)
theorem n_iinc1 (i n : Nat) {x v : Int32} {a : Int} {l0 : Option Value} {Lr : List (Option Value)} (hd : M.2.2.2.2[i]? = some (pc, .iinc 1 a, 3)) (hn : pc + 3 = n) (ha : x + Int32.ofInt a = v) (hp : zn l0 = true) (h : zGn X B R M mc ms Sf n (l0 :: some (.int v) :: Lr) st S cells slots) : zGn X B R M mc ms Sf pc (l0 :: some (.int x) :: Lr) st S cells slots := by
  subst hn; subst ha
  intro p e s m args below meth c C hq H locs ls hP hS hl
  obtain ⟨q, hq1⟩ := List.getElem?_of_mem (zprs_mem.mpr (zl_map' (X := X) (L := l0 :: some (.int x) :: Lr) (i := 1) (u := .int x) rfl))
  exact lv_iinc C.hx C.hb (C.dec hd) (zl_has hl) hq1 rfl (by simp only [List.map_cons, List.length_cons]; omega) rfl (fun ls' hl' => h p e s m args below meth c C hq H locs ls' hP hS (zset1 (L := l0 :: some (.int x) :: Lr) (j := 1) (v := .int (x + Int32.ofInt a)) hp hl'))
theorem n_goto (i n : Nat) {a : Int} (hd : M.2.2.2.2[i]? = some (pc, .goto a, 3)) (hn : (pc : Int) + a = (n : Int)) (h : zGn X B R M mc ms Sf n L st S cells slots) : zGn X B R M mc ms Sf pc L st S cells slots := by
  intro p e s m args below meth c C hq H locs ls hP hS hl
  exact lv_goto C.hx C.hb (C.dec hd) hn (h p e s m args below meth c C hq H locs ls hP hS hl)
theorem n_geT (i n t : Nat) {x y : Int32} {a : Int} (hd : M.2.2.2.2[i]? = some (pc, .if_icmp .ge a, 3)) (ht : (pc : Int) + a = (t : Int)) (hc : y ≤ x) (h : zGn X B R M mc ms Sf t L st S cells slots) : zGn X B R M mc ms Sf pc L (.int y :: .int x :: st) S cells slots := by
  intro p e s m args below meth c C hq H locs ls hP hS hl
  exact lv_icmp_ge C.hx C.hb (C.dec hd) ht (fun _ => h p e s m args below meth c C hq H locs ls hP hS hl) (fun z => absurd hc z)
theorem n_geF (i n t : Nat) {x y : Int32} {a : Int} (hd : M.2.2.2.2[i]? = some (pc, .if_icmp .ge a, 3)) (ht : (pc : Int) + a = (t : Int)) (hn : pc + 3 = n) (hc : ¬ y ≤ x) (h : zGn X B R M mc ms Sf n L st S cells slots) : zGn X B R M mc ms Sf pc L (.int y :: .int x :: st) S cells slots := by
  subst hn
  intro p e s m args below meth c C hq H locs ls hP hS hl
  exact lv_icmp_ge C.hx C.hb (C.dec hd) ht (fun z => absurd z hc) (fun _ => h p e s m args below meth c C hq H locs ls hP hS hl)
theorem n_getR (i n fk : Nat) {a ci ix v : Nat} {q : vw_C} {ty : Nat → FieldType} (hd : M.2.2.2.2[i]? = some (pc, .getfield ix, 3)) (hn : pc + 3 = n) (hf : zF M.1.cls ix ci fk q ty) (hb : (zf ci)[fk]? = some true) (hg : zgd S a = (ci, 0)) (hv : S.2.2 a fk = v) (hv0 : v ≠ 3000) (h : zGn X B R M mc ms Sf n L (.ref v :: st) S cells slots) : zGn X B R M mc ms Sf pc L (.ref a :: st) S cells slots := by
  subst hn; subst hv
  obtain ⟨⟨h5, h1, h6, h7, h4, h8⟩, h2, h3⟩ := hf
  intro p e s m args below meth c C hq H locs ls hP hS hl
  have ha : a < S.1.length := zgd_lt hg (fun z => by cases z; omega)
  exact va_get (D := X.2.1) (v := .ref (za X (S.2.2 a fk))) (fs := zfn X S.2 a ci) (ci := ci) (C := q.1) (T := q.2.1) (N := q.2.2) C.hx C.hb C.hts h4 C.hown C.hK hP.1 a (by rw [zwn_get ha, hg, zEn_obj h5]) h1 fk h2 (C.hts _ h3) (fun _ h => h) (by rw [zfn_get hb]; simp [zval, hv0]) (C.dec hd) (h p e s m args below meth c C hq H locs ls hP hS hl)
theorem n_aast (i n : Nat) {a v N : Nat} {x : Int32} (hd : M.2.2.2.2[i]? = some (pc, .aastore, 1)) (hn : pc + 1 = n) (hg : zgd S a = (103, N)) (hgv : zgd S v = (6, 0)) (hx : vp_in x N) (hv : v ≠ 3000) (hl0 : S.1.length ≤ 1000) (h : zGn X B R M mc ms Sf n L st (sR a x.toNatClampNeg v S) cells slots) : zGn X B R M mc ms Sf pc L (.ref v :: .int x :: .ref a :: st) S cells slots := by
  subst hn
  intro p e s m args below meth c C hq H locs ls hP hS hl
  have ha : a < S.1.length := zgd_lt hg (fun z => by cases z)
  have hav : v < S.1.length := zgd_lt hgv (fun z => by cases z)
  have e0 : zEn X S.2 a (103, N) = .inl (X.2.2.2.1 3, N, .inr (.inr (.inr (.inr (fun j => if S.2.2 a j = 3000 then none else some (za X (S.2.2 a j))))))) := by simp [zEn]
  refine va_astq (D := X.2.1) (cl := vwCl) C.hx C.hb C.hK hP.1 (zwn_D C.hA hl0) hS a 2 v 6 (r := (RX6, TX6, 8)) (vs := zfn X S.2 v 6) (f := fun j => if S.2.2 a j = 3000 then none else some (za X (S.2.2 a j))) (by rw [zwn_get ha, hg, e0]) rfl (by rw [zwn_get hav, hgv, zEn_obj (by omega)]) rfl hx (C.dec hd) (fun H1 locs1 hP1 hD1 hS1 => ?_)
  refine h p e s m args below meth c C hq H1 locs1 ls ⟨?_, zfr_R hP.2 ha⟩ hS1 hl
  rw [zwn_set (X := X) (S := S) (τ := zpr S.2 a x.toNatClampNeg v) ha (by
    rw [hg]
    show _ = zEn X (zpr S.2 a x.toNatClampNeg v) a (103, N)
    simp only [zEn, show ¬ ((103 : Nat) < 100) from by omega, if_false, if_true]
    refine congrArg (fun f => Sum.inl (X.2.2.2.1 3, N, Sum.inr (Sum.inr (Sum.inr (Sum.inr f))))) (funext fun j => ?_)
    by_cases hj : j = x.toNatClampNeg
    · simp [va_up, zpr, hj, hv]
    · simp [va_up, zpr, hj]) (fun b _ j => rfl) zpr_o] at hP1
  exact hP1
end ZGN
/-- a constructor's entry -/
theorem n_entry {X : zX} {B d mc ms : Nat} {M : zM} {a : Nat} {S Sf : zN} (hy : plainName M.1.cls = true) (hT : zT M) (hnm : M.1.name = "<init>") (h0 : 0 < S.1.length) (h1 : S.1.length ≤ 1000) (hn : 1 ≤ M.2.2.1) (h : zGn X B (zrn d mc ms) M mc ms Sf 0 (some (.ref a) :: List.replicate (M.2.2.1 - 1) none) [] S 0 0) : zCI X B d M a S Sf mc ms := by
  refine Met.ofW (cc := M.2.1) (maxL := M.2.2.1) (ret := M.2.2.2.1) hy rfl ?_
  intro p e s m args below meth c s₁ Bd hml hv
  obtain ⟨rfl, hz, hI, hK, hA, hN⟩ := hv
  have hts := atoms_spec (ws := Cond.code M.1 M.2.1 M.2.2.1 M.2.2.2.1 :: zTT) Bd.pre
  have hin : meth.name = "<init>" := (name_of_methodNamed Bd.named Bd.method).1.trans hnm
  have C : zCi X B M p s m [Value.ref (za X a)].toArray meth c := ⟨Bd.exec, Bd.bytes, hml, Bd.returns, Bd.notSynchronized, findClass_of_methodNamed Bd.named, fun w hw => hts w (List.mem_cons_of_mem _ hw), hK, hA, hN, hT, hin⟩
  have hl := zl_entry X [.ref a] (n := M.2.2.1) hn
  have h2 := h p e s m [Value.ref (za X a)].toArray below meth c C ⟨by omega, h0, h1⟩ s.heap [] _ hI va_S.rf hl
  rw [lg_entry_eq]
  exact h2
