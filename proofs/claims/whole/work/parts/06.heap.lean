/-! fields, arrays, returns, entry, calls -/
def zcl (ci : Nat) (q : vw_C) (ty : Nat → FieldType) : Prop := ci < 100 ∧ vwCl[ci]? = some q ∧ (∀ k, k < q.2.2 → parseFieldDescriptor (q.2.1 k).2.2.1 = some (ty k)) ∧ (∀ a, a < q.2.2 → ∀ b, b < q.2.2 → a ≠ b → (q.2.1 a).2.1 ≠ (q.2.1 b).2.1) ∧ (∀ w ∈ u_ws q.1 q.2.1 q.2.2, w ∈ zTT) ∧ (zf ci).length = q.2.2
def zF (own : String) (ix ci fk : Nat) (q : vw_C) (ty : Nat → FieldType) : Prop := zcl ci q ty ∧ fk < q.2.2 ∧ Cond.fieldLink own ix (q.2.1 fk).1 (q.2.1 fk).2.1 (q.2.1 fk).2.2.1 ∈ zTT
theorem zE_obj {X : zX} {σ : zS} {a ci : Nat} (h : ci < 100) : zE X σ a (ci, 0) = .inr (ci, zfs X σ a ci) := by simp [zE, h]
theorem zE_int {X : zX} {σ : zS} {a n : Nat} : zE X σ a (100, n) = .inl (X.2.2.2.1 0, n, .inl (fun j => σ.1 a j)) := by simp [zE]
theorem zE_byte {X : zX} {σ : zS} {a n : Nat} : zE X σ a (101, n) = .inl (X.2.2.2.1 1, n, .inl (fun j => σ.1 a j)) := by simp [zE]
theorem zE_page {X : zX} {σ : zS} {a n : Nat} : zE X σ a (103, n) = .inl (X.2.2.2.1 3, n, .inr (.inr (.inr (.inr (fun j => some (za X (σ.2 a j))))))) := by simp [zE]
theorem zok_in {s : Nat} {g : Nat × Nat} {i : Int32} (h : zok s g i) : g = (s, g.2) ∧ vp_in i g.2 := ⟨by rw [← h.1], vp_in_iff.mpr h.2⟩
section ZH
variable {X : zX} {w : zW} {R : Room} {M : zM} {ρ : Type} {Z : ρ → zS → zZt} {pc : Nat} {L : List (Option Value)} {st : List Value} {σ : zS} {k : Option (ρ × zS)}
theorem z_getI (i n fk : Nat) {a ci ix : Nat} {q : vw_C} {ty : Nat → FieldType} (hd : M.2.2.2.2[i]? = some (pc, .getfield ix, 3)) (hn : pc + 3 = n) (hf : zF M.1.cls ix ci fk q ty) (hb : (zf ci)[fk]? = some false) (hg : w.2 a = (ci, 0)) (h : zK X w R M Z n L (.int (σ.1 a fk) :: st) σ k) : zK X w R M Z pc L (.ref a :: st) σ k := by
  subst hn
  obtain ⟨⟨h5, h1, h6, h7, h4, h8⟩, h2, h3⟩ := hf
  intro r σ' hk p e s m args below meth c C H locs ls hP hS hl
  have ha := C.ok.lt hg (by omega)
  exact va_get (D := X.2.1) (v := .int (σ.1 a fk)) (fs := zfs X σ a ci) (ci := ci) (C := q.1) (T := q.2.1) (N := q.2.2) C.hx C.hb C.hts h4 C.hown C.hK hP a (by rw [zw_get ha, hg, zE_obj h5]) h1 fk h2 (C.hts _ h3) (fun _ h => h) (by rw [zfs_get hb]; rfl) (C.dec hd) (h r σ' hk p e s m args below meth c C H locs ls hP hS hl)
theorem z_getR (i n fk : Nat) {a ci ix : Nat} {q : vw_C} {ty : Nat → FieldType} (hd : M.2.2.2.2[i]? = some (pc, .getfield ix, 3)) (hn : pc + 3 = n) (hf : zF M.1.cls ix ci fk q ty) (hb : (zf ci)[fk]? = some true) (hg : w.2 a = (ci, 0)) (h : zK X w R M Z n L (.ref (σ.2 a fk) :: st) σ k) : zK X w R M Z pc L (.ref a :: st) σ k := by
  subst hn
  obtain ⟨⟨h5, h1, h6, h7, h4, h8⟩, h2, h3⟩ := hf
  intro r σ' hk p e s m args below meth c C H locs ls hP hS hl
  have ha := C.ok.lt hg (by omega)
  exact va_get (D := X.2.1) (v := .ref (za X (σ.2 a fk))) (fs := zfs X σ a ci) (ci := ci) (C := q.1) (T := q.2.1) (N := q.2.2) C.hx C.hb C.hts h4 C.hown C.hK hP a (by rw [zw_get ha, hg, zE_obj h5]) h1 fk h2 (C.hts _ h3) (fun _ h => h) (by rw [zfs_get hb]; rfl) (C.dec hd) (h r σ' hk p e s m args below meth c C H locs ls hP hS hl)
theorem zpi_o {σ : zS} {a k : Nat} {v : Int32} : ∀ b, b ≠ a → ∀ j, (zpi σ a k v).1 b j = σ.1 b j := fun b hb j => by simp [zpi, hb]
theorem zpr_o {σ : zS} {a k v : Nat} : ∀ b, b ≠ a → ∀ j, (zpr σ a k v).2 b j = σ.2 b j := fun b hb j => by simp [zpr, hb]
theorem z_putX (i n fk : Nat) {a ci ix : Nat} {v : Int32} {q : vw_C} {ty : Nat → FieldType} {t : FieldType} {kf : zS → Option (ρ × zS)} (hd : M.2.2.2.2[i]? = some (pc, .putfield ix, 3)) (hn : pc + 3 = n) (hf : zF M.1.cls ix ci fk q ty) (hb : (zf ci)[fk]? = some false) (hfin : (q.2.1 fk).2.2.2 = false) (ht : ty fk = t) (hnar : narrow t (.int v) = .int v) (hfit : fits t (.int v) = true) (hg : w.2 a = (ci, 0)) (h : ∀ σ2, zK X w R M Z n L st σ2 (kf σ2)) : zK X w R M Z pc L (.int v :: .ref a :: st) σ (zlt (zpi σ a fk v) kf) := by
  subst hn; subst ht
  obtain ⟨⟨h5, h1, h6, h7, h4, h8⟩, h2, h3⟩ := hf
  intro r σ' hk p e s m args below meth c C H locs ls hP hS hl
  have ha := C.ok.lt hg (by omega)
  refine va_put (D := X.2.1) (v := .int v) (ty := ty fk) (fs := zfs X σ a ci) (ci := ci) (C := q.1) (T := q.2.1) (N := q.2.2) C.hx C.hb C.hts h4 ty h6 h7 C.hown C.hK hP (zw_D C.ok) hS a (by rw [zw_get ha, hg, zE_obj h5]) h1 fk h2 (C.hts _ h3) (fun _ h => h) hfin (h6 fk h2) hnar hfit (by simp [zfs, h8, h2]) (C.dec hd) (fun H1 locs1 hP1 hD1 hS1 => ?_)
  refine h (zpi σ a fk v) r σ' hk p e s m args below meth c C H1 locs1 ls ?_ hS1 hl
  rw [zw_set (τ := zpi σ a fk v) ha (by rw [hg, zE_obj h5, zfs_setI hb]) zpi_o (fun b _ j => rfl)] at hP1
  exact hP1
theorem z_putI (i n fk : Nat) {a ci ix : Nat} {v : Int32} {q : vw_C} {ty : Nat → FieldType} {kf : zS → Option (ρ × zS)} (hd : M.2.2.2.2[i]? = some (pc, .putfield ix, 3)) (hn : pc + 3 = n) (hf : zF M.1.cls ix ci fk q ty) (hb : (zf ci)[fk]? = some false) (hfin : (q.2.1 fk).2.2.2 = false) (ht : ty fk = .int) (hg : w.2 a = (ci, 0)) (h : ∀ σ2, zK X w R M Z n L st σ2 (kf σ2)) : zK X w R M Z pc L (.int v :: .ref a :: st) σ (zlt (zpi σ a fk v) kf) :=
  z_putX i n fk hd hn hf hb hfin ht rfl rfl hg h
theorem zb_nar {v : Int32} (h : zb v) : narrow .boolean (.int v) = .int v := by
  rcases h with rfl | rfl <;> rfl
theorem zb_fit {v : Int32} (h : zb v) : fits .boolean (.int v) = true := by
  rcases h with rfl | rfl <;> rfl
theorem z_putZ (i n fk : Nat) {a ci ix : Nat} {v : Int32} {q : vw_C} {ty : Nat → FieldType} {kf : zS → Option (ρ × zS)} (hd : M.2.2.2.2[i]? = some (pc, .putfield ix, 3)) (hn : pc + 3 = n) (hf : zF M.1.cls ix ci fk q ty) (hb : (zf ci)[fk]? = some false) (hfin : (q.2.1 fk).2.2.2 = false) (ht : ty fk = .boolean) (hg : w.2 a = (ci, 0)) (h : ∀ σ2, zK X w R M Z n L st σ2 (kf σ2)) : zK X w R M Z pc L (.int v :: .ref a :: st) σ (zck (zb v) (zlt (zpi σ a fk v) kf)) :=
  z_ck (fun hv => z_putX i n fk hd hn hf hb hfin ht (zb_nar hv) (zb_fit hv) hg h)
theorem z_putR (i n fk : Nat) {a ci ix v : Nat} {q : vw_C} {ty : Nat → FieldType} {t : FieldType} {kf : zS → Option (ρ × zS)} (hd : M.2.2.2.2[i]? = some (pc, .putfield ix, 3)) (hn : pc + 3 = n) (hf : zF M.1.cls ix ci fk q ty) (hb : (zf ci)[fk]? = some true) (hfin : (q.2.1 fk).2.2.2 = false) {cn : String} (ht : ty fk = .object cn) (hg : w.2 a = (ci, 0)) (h : ∀ σ2, zK X w R M Z n L st σ2 (kf σ2)) : zK X w R M Z pc L (.ref v :: .ref a :: st) σ (zlt (zpr σ a fk v) kf) := by
  subst hn
  obtain ⟨⟨h5, h1, h6, h7, h4, h8⟩, h2, h3⟩ := hf
  intro r σ' hk p e s m args below meth c C H locs ls hP hS hl
  have ha := C.ok.lt hg (by omega)
  refine va_put (D := X.2.1) (v := .ref (za X v)) (ty := .object cn) (fs := zfs X σ a ci) (ci := ci) (C := q.1) (T := q.2.1) (N := q.2.2) C.hx C.hb C.hts h4 ty h6 h7 C.hown C.hK hP (zw_D C.ok) hS a (by rw [zw_get ha, hg, zE_obj h5]) h1 fk h2 (C.hts _ h3) (fun _ h => h) hfin (by rw [← ht]; exact h6 fk h2) rfl rfl (by simp [zfs, h8, h2]) (C.dec hd) (fun H1 locs1 hP1 hD1 hS1 => ?_)
  refine h (zpr σ a fk v) r σ' hk p e s m args below meth c C H1 locs1 ls ?_ hS1 hl
  rw [zw_set (X := X) (σ := σ) (τ := zpr σ a fk v) ha (by rw [hg, zE_obj h5, zfs_setR hb]) (fun b _ j => rfl) zpr_o] at hP1
  exact hP1
theorem z_iald (i n : Nat) {a : Nat} {x : Int32} (hd : M.2.2.2.2[i]? = some (pc, .iaload, 1)) (hn : pc + 1 = n) (h : zK X w R M Z n L (.int (σ.1 a x.toNatClampNeg) :: st) σ k) : zK X w R M Z pc L (.int x :: .ref a :: st) σ (zck (zok 100 (w.2 a) x) k) := by
  subst hn
  refine z_ck (fun hc => ?_)
  obtain ⟨hg, hi⟩ := zok_in hc
  intro r σ' hk p e s m args below meth c C H locs ls hP hS hl
  have ha := C.ok.lt hg (by omega)
  exact va_iald (D := X.2.1) C.hx C.hb C.hK hP a 0 (f := fun j => σ.1 a j) (by rw [zw_get ha]; rw [hg, zE_int]) rfl hi (C.dec hd) (h r σ' hk p e s m args below meth c C H locs ls hP hS hl)
theorem z_bald (i n : Nat) {a : Nat} {x : Int32} (hd : M.2.2.2.2[i]? = some (pc, .baload, 1)) (hn : pc + 1 = n) (h : zK X w R M Z n L (.int (σ.1 a x.toNatClampNeg) :: st) σ k) : zK X w R M Z pc L (.int x :: .ref a :: st) σ (zck (zok 101 (w.2 a) x) k) := by
  subst hn
  refine z_ck (fun hc => ?_)
  obtain ⟨hg, hi⟩ := zok_in hc
  intro r σ' hk p e s m args below meth c C H locs ls hP hS hl
  have ha := C.ok.lt hg (by omega)
  exact va_bald (D := X.2.1) C.hx C.hb C.hK hP a 1 (f := fun j => σ.1 a j) (by rw [zw_get ha]; rw [hg, zE_byte]) rfl hi (C.dec hd) (h r σ' hk p e s m args below meth c C H locs ls hP hS hl)
theorem z_aald (i n : Nat) {a : Nat} {x : Int32} (hd : M.2.2.2.2[i]? = some (pc, .aaload, 1)) (hn : pc + 1 = n) (h : zK X w R M Z n L (.ref (σ.2 a x.toNatClampNeg) :: st) σ k) : zK X w R M Z pc L (.int x :: .ref a :: st) σ (zck (zok 103 (w.2 a) x) k) := by
  subst hn
  refine z_ck (fun hc => ?_)
  obtain ⟨hg, hi⟩ := zok_in hc
  intro r σ' hk p e s m args below meth c C H locs ls hP hS hl
  have ha := C.ok.lt hg (by omega)
  exact va_aldq (D := X.2.1) (C := "PostScripts$Page") C.hx C.hb C.hK hP a 2 (f := fun j => some (za X (σ.2 a j))) (by rw [zw_get ha]; rw [hg, zE_page]) rfl hi (C.dec hd) (h r σ' hk p e s m args below meth c C H locs ls hP hS hl)
theorem z_alen (i n : Nat) {a : Nat} (hd : M.2.2.2.2[i]? = some (pc, .arraylength, 1)) (hn : pc + 1 = n) (hg : (w.2 a).1 = 100) (h : zK X w R M Z n L (.int (Int32.ofNat (w.2 a).2) :: st) σ k) : zK X w R M Z pc L (.ref a :: st) σ k := by
  subst hn
  have hg' : w.2 a = (100, (w.2 a).2) := by rw [← hg]
  intro r σ' hk p e s m args below meth c C H locs ls hP hS hl
  have ha := C.ok.lt hg' (by omega)
  exact va_alen (D := X.2.1) C.hx C.hb C.hK hP a 0 (x := ((w.2 a).2, .inl (fun j => σ.1 a j))) (by rw [zw_get ha]; rw [hg', zE_int]) rfl rfl (C.dec hd) (h r σ' hk p e s m args below meth c C H locs ls hP hS hl)
theorem z_iast (i n : Nat) {a : Nat} {x v : Int32} {kf : zS → Option (ρ × zS)} (hd : M.2.2.2.2[i]? = some (pc, .iastore, 1)) (hn : pc + 1 = n) (h : ∀ σ2, zK X w R M Z n L st σ2 (kf σ2)) : zK X w R M Z pc L (.int v :: .int x :: .ref a :: st) σ (zck (zok 100 (w.2 a) x) (zlt (zpi σ a x.toNatClampNeg v) kf)) := by
  subst hn
  refine z_ck (fun hc => ?_)
  obtain ⟨hg, hi⟩ := zok_in hc
  intro r σ' hk p e s m args below meth c C H locs ls hP hS hl
  have ha := C.ok.lt hg (by omega)
  refine va_iast (D := X.2.1) C.hx C.hb C.hK hP (zw_D C.ok) hS a 0 (f := fun j => σ.1 a j) (by rw [zw_get ha]; rw [hg, zE_int]) rfl hi (C.dec hd) (fun H1 locs1 hP1 hD1 hS1 => ?_)
  refine h _ r σ' hk p e s m args below meth c C H1 locs1 ls ?_ hS1 hl
  rw [zw_set (τ := zpi σ a x.toNatClampNeg v) ha (by rw [hg, zE_int]; exact congrArg (fun f => Sum.inl (X.2.2.2.1 0, (w.2 a).2, Sum.inl f)) (funext fun j => by simp [upd, zpi])) zpi_o (fun b _ j => rfl)] at hP1
  exact hP1
theorem z_bast (i n : Nat) {a : Nat} {x v : Int32} {kf : zS → Option (ρ × zS)} (hd : M.2.2.2.2[i]? = some (pc, .bastore, 1)) (hn : pc + 1 = n) (h : ∀ σ2, zK X w R M Z n L st σ2 (kf σ2)) : zK X w R M Z pc L (.int v :: .int x :: .ref a :: st) σ (zck (zok 101 (w.2 a) x) (zlt (zpi σ a x.toNatClampNeg (vp_nar .byte v)) kf)) := by
  subst hn
  refine z_ck (fun hc => ?_)
  obtain ⟨hg, hi⟩ := zok_in hc
  intro r σ' hk p e s m args below meth c C H locs ls hP hS hl
  have ha := C.ok.lt hg (by omega)
  refine va_bast (D := X.2.1) C.hx C.hb C.hK hP (zw_D C.ok) hS a 1 (f := fun j => σ.1 a j) (by rw [zw_get ha]; rw [hg, zE_byte]) rfl hi (C.dec hd) (fun H1 locs1 hP1 hD1 hS1 => ?_)
  refine h _ r σ' hk p e s m args below meth c C H1 locs1 ls ?_ hS1 hl
  rw [zw_set (τ := zpi σ a x.toNatClampNeg (vp_nar .byte v)) ha (by rw [hg, zE_byte]; exact congrArg (fun f => Sum.inl (X.2.2.2.1 1, (w.2 a).2, Sum.inl f)) (funext fun j => by simp [upd, zpi])) zpi_o (fun b _ j => rfl)] at hP1
  exact hP1
/-- a method's end -/
theorem zB_end {p : Program} {s : State} {m : MethodId} {args : Array Value} {meth : Method} {c : Code} (C : zC X w M p s m args meth c) {H : Heap} {locs : List Loc} (hP : va_P X.2.1 vwCl (zw X w σ) H) (hS : va_S (zA X w) s.heap H locs) (t : State) (ht : t.heap = H) (hW : s.WarmedH t.vm) : zB X w σ t :=
  ⟨by rw [ht]; exact hP, va_K.moved hW.alike C.hK, C.ok, by rw [ht]; exact (C.hV.kept hS.2.1).warm hW⟩
theorem z_iret (i : Nat) {v : Int32} (hd : M.2.2.2.2[i]? = some (pc, .ireturn, 1)) (hr : M.2.2.2.1 = some .int) : zK X w R M (zZ X w zeI) pc L [.int v] σ (some (v, σ)) := by
  intro r σ' hk p e s m args below meth c C H locs ls hP hS hl
  cases hk
  exact W.iret (v := v) C.hx C.hb (C.hr.trans hr) (fun t ht hW => ⟨⟨rfl, zB_end C hP hS t ht hW⟩, hS.F ht⟩) hS.2.2 (C.dec hd) C.hlk
theorem z_zret (i : Nat) {v : Int32} (hd : M.2.2.2.2[i]? = some (pc, .ireturn, 1)) (hr : M.2.2.2.1 = some .boolean) : zK X w R M (zZ X w zeI) pc L [.int v] σ (zck (zb v) (some (v, σ))) := by
  refine z_ck (fun hv => ?_)
  intro r σ' hk p e s m args below meth c C H locs ls hP hS hl
  cases hk
  exact W.zret (v := v) C.hx C.hb (C.hr.trans hr) (zb_nar hv) (fun t ht hW => ⟨⟨rfl, zB_end C hP hS t ht hW⟩, hS.F ht⟩) hS.2.2 (C.dec hd) C.hlk
theorem z_lret (i : Nat) {v : Int64} (hd : M.2.2.2.2[i]? = some (pc, .lreturn, 1)) (hr : M.2.2.2.1 = some .long) : zK X w R M (zZ X w zeL) pc L [.long v] σ (some (v, σ)) := by
  intro r σ' hk p e s m args below meth c C H locs ls hP hS hl
  cases hk
  exact W.lret (v := v) C.hx C.hb (C.hr.trans hr) (fun t ht hW => ⟨⟨rfl, zB_end C hP hS t ht hW⟩, hS.F ht⟩) hS.2.2 (C.dec hd) C.hlk
theorem z_vret (i : Nat) (hd : M.2.2.2.2[i]? = some (pc, .return_, 1)) (hr : M.2.2.2.1 = none) : zK X w R M (zZ X w zeV) pc L [] σ (some ((), σ)) := by
  intro r σ' hk p e s m args below meth c C H locs ls hP hS hl
  cases hk
  exact W.vret C.hx C.hb (C.hr.trans hr) (fun t ht hW => ⟨⟨rfl, zB_end C hP hS t ht hW⟩, hS.F ht⟩) hS.2.2 (C.dec hd) C.hlk
end ZH
/-- a method's entry -/
def zsl (vs : List Value) : List (Option Value) := vs.flatMap (fun v => if v.category = 2 then [some v, none] else [some v])
def zL0 (n : Nat) (vs : List Value) : List (Option Value) := zsl vs ++ List.replicate (n - (zsl vs).length) none
theorem zsl_rel (X : zX) (vs : List Value) : (zsl vs).length = (lg_sl (vs.map (zv X))).length ∧ ∀ (i : Nat) (v : Value), ((zsl vs).map (Option.map (zv X)))[i]? = some (some v) → (lg_sl (vs.map (zv X)))[i]? = some (.val v) := by
  induction vs with
  | nil => exact ⟨rfl, fun i v h => by simp [zsl] at h⟩
  | cons u vs ih =>
    have e1 : zsl (u :: vs) = (if u.category = 2 then [some u, none] else [some u]) ++ zsl vs := by simp [zsl]
    have e2 : lg_sl ((u :: vs).map (zv X)) = (if u.category = 2 then [.val (zv X u), .second] else [.val (zv X u)]) ++ lg_sl (vs.map (zv X)) := by simp [lg_sl, zv_cat]
    rw [e1, e2]
    by_cases h2 : u.category = 2
    · simp only [if_pos h2]
      refine ⟨by simp [ih.1], fun i v h => ?_⟩
      match i, h with
      | 0, h => simpa using h
      | 1, h => simp at h
      | i + 2, h => exact ih.2 i v (by simpa using h)
    · simp only [if_neg h2]
      refine ⟨by simp [ih.1], fun i v h => ?_⟩
      match i, h with
      | 0, h => simpa using h
      | i + 1, h => exact ih.2 i v (by simpa using h)
theorem zl_entry (X : zX) (vs : List Value) {n : Nat} (hn : (zsl vs).length ≤ n) : zl ((lg_sl (vs.map (zv X)) ++ List.replicate (n - (lg_sl (vs.map (zv X))).length) Slot.unset).toArray) ((zL0 n vs).map (Option.map (zv X))) := by
  obtain ⟨e1, e2⟩ := zsl_rel X vs
  have h0 := lv_entry (vs.map (zv X)) (n := n) (by rw [← e1]; exact hn)
  refine ⟨by rw [h0.1]; simp [zL0]; omega, h0.2.1, fun i v hi => ?_⟩
  by_cases hl : i < (zsl vs).length
  · have : ((zsl vs).map (Option.map (zv X)))[i]? = some (some v) := by
      rw [zL0, List.map_append, List.getElem?_append_left (by simpa using hl)] at hi
      exact hi
    have h1 := e2 i v this
    rw [List.getElem?_toArray, List.getElem?_append_left (by rw [← e1]; exact hl)]
    exact h1
  · rw [zL0, List.map_append, List.getElem?_append_right (by simpa using hl)] at hi
    simp only [List.map_replicate, List.getElem?_replicate] at hi
    split at hi <;> cases hi
theorem z_entry {X : zX} {w : zW} {d : Nat} {M : zM} {ρ : Type} {em : ρ → Option Value} {σ : zS} {f : Option (ρ × zS)} (vs : List Value) (hy : plainName M.1.cls = true) (hT : zT M) (hn : (zsl vs).length ≤ M.2.2.1) (h : zK X w (zrm d) M (zZ X w em) 0 (zL0 M.2.2.1 vs) [] σ f) (r : ρ) (σ' : zS) (hf : f = some (r, σ')) : zCN X w d M vs σ (em r, σ') := by
  refine Met.ofW (cc := M.2.1) (maxL := M.2.2.1) (ret := M.2.2.2.1) hy rfl ?_
  intro p e s m args below meth c s₁ B hml hv
  obtain ⟨rfl, hP, hK, hok, hV⟩ := hv
  have hts := atoms_spec (ws := Cond.code M.1 M.2.1 M.2.2.1 M.2.2.2.1 :: zTT) B.pre
  have C : zC X w M p s m (vs.map (zv X)).toArray meth c := ⟨B.exec, B.bytes, hml, B.returns, B.notSynchronized, findClass_of_methodNamed B.named, fun w hw => hts w (List.mem_cons_of_mem _ hw), hK, hok, hV, hT⟩
  have h1 := h r σ' hf p e s m (vs.map (zv X)).toArray below meth c C s.heap [] _ hP va_S.rf (zl_entry X vs hn)
  rw [lg_entry_eq]
  exact h1
