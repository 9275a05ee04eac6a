/-! the law: its state, its rows -/
def zbo (x : Int32) : Int32 := if x = 0 then 0 else 1
def lS (X : zX) (w : zW) (s : State) : Prop := va_K X.2.1 vwCl (zt X) s ∧ zOK X w ∧ zV X (zA X w) s s.heap ∧ ∀ q, zA X w q → s.heap.size ≤ q
def lC (p : Program) (s : State) (m : MethodId) (meth : Method) (c : Code) (XC XM : zX) (cJ : ClassId) (ob b L : Nat) (xs : Nat → Int32) : Prop :=
  p.tables.exec = Jvm.exec ∧ c.code = code ∧ meth.sig.returnType = ret ∧ c.maxLocals = 7 ∧ s.vm.findClass R_law = some m.cls ∧ (∀ w ∈ zTT, w.before #[Value.ref b] s = true) ∧ va_X b L xs s s.heap ∧ b < s.heap.size ∧ meth.locks = false ∧ L ≤ 3072 ∧
  lS XC WC s ∧ lS XM WM s ∧ zXu XC WC s ∧ ArrOfT s cJ .long ∧ (∀ q, zA XC WC q → ¬ zA XM WM q) ∧ ¬ zA XC WC ob ∧ ¬ zA XM WM ob ∧ s.heap.size ≤ ob ∧ XM.1 = XC.1
def lI (XC XM : zX) (cJ : ClassId) (ob : Nat) (σc σm : zS) (g : Nat → Int64) (s : State) (H : Heap) (locs : List Loc) : Prop :=
  va_P XC.2.1 vwCl (zw XC WC σc) H ∧ va_P XM.2.1 vwCl (zw XM WM σm) H ∧ H[ob]? = some (vp_cell cJ (1, .inr (.inl g))) ∧ va_S (fun q => s.heap.size ≤ q) s.heap H locs
abbrev lLs (XC XM : zX) (ob b i : Nat) : List (Nat × Value) := [(0, .ref b), (1, .ref (za XC 0)), (2, .ref (za XM 0)), (3, .ref ob), (4, .int (nI i))]
def lG (p : Program) (e : Env) (s : State) (m : MethodId) (below : List Frame) (meth : Method) (c : Code) (XC XM : zX) (cJ : ClassId) (ob b : Nat) (pc i : Nat) (st : List Value) (σc σm : zS) (g : Nat → Int64) (cells slots : Nat) : Prop :=
  ∀ (H : Heap) (locs : List Loc) (ls : Array Slot), lI XC XM cJ ob σc σm g s H locs → lv_has ls 7 (lLs XC XM ob b i) → W p XC.1 e room_1 s m #[Value.ref b] below meth c H locs cells slots (lw_Z below #[Value.ref b] s) (F0 m pc ls st)
section LAW
variable {p : Program} {e : Env} {s : State} {m : MethodId} {below : List Frame} {meth : Method} {c : Code} {XC XM : zX} {cJ : ClassId} {ob b L : Nat} {xs : Nat → Int32} {pc i : Nat} {st : List Value} {σc σm : zS} {g : Nat → Int64} {cells slots : Nat}
theorem l_zB {X : zX} {w : zW} {σ : zS} {H : Heap} {locs : List Loc} (h : lS X w s) (hP : va_P X.2.1 vwCl (zw X w σ) H) (hS : va_S (fun q => s.heap.size ≤ q) s.heap H locs) (U : State) (hU : U.heap = H) (hW : s.WarmedH U.vm) : zB X w σ U :=
  ⟨by rw [hU]; exact hP, va_K.moved hW.alike h.1, h.2.1, by rw [hU]; exact (h.2.2.1.kept (fun a g1 g2 => hS.2.1 a g1 (fun z => absurd g1 (Nat.not_lt.mpr z)))).warm hW⟩
theorem l_aload (C : lC p s m meth c XC XM cJ ob b L xs) {k n : Nat} {j : Fin 4} {v : Nat} (hd : decode code pc = .ok (.aload_n j, 1)) (hn : pc + 1 = n) (hv : (lLs XC XM ob b i)[k]? = some ((j : Nat), .ref v)) (h : lG p e s m below meth c XC XM cJ ob b n i (.ref v :: st) σc σm g cells slots) : lG p e s m below meth c XC XM cJ ob b pc i st σc σm g cells slots := by
  subst hn
  intro H locs ls hI hl
  exact lv_aload_n C.1 C.2.1 hd rfl (lv_at hl k hv) (h H locs ls hI hl)
theorem l_arg (C : lC p s m meth c XC XM cJ ob b L xs) (k n : Nat) {kk : Int} (d0 : decode code pc = .ok (.aload_n 0, 1)) (d1 : decode code (pc + 1) = .ok (.iload 4, 2)) (d2 : decode code (pc + 3) = .ok (.iconst kk, 1)) (d3 : decode code (pc + 4) = .ok (.iadd, 1)) (d4 : decode code (pc + 5) = .ok (.iaload, 1)) (hk : Int32.ofInt kk = nI k) (hik : i + k < L) (hn : pc + 6 = n)
    (h : lG p e s m below meth c XC XM cJ ob b n i (.int (xs (i + k)) :: st) σc σm g cells slots) : lG p e s m below meth c XC XM cJ ob b pc i st σc σm g cells slots := by
  subst hn
  intro H locs ls hI hl
  obtain ⟨hx, hb, hr, hml, hown, hts, hX, hbl, hlk, hL, -⟩ := C
  refine lv_aload_n hx hb d0 rfl (lv_at hl 0 rfl) ?_
  refine lv_iload hx hb d1 (lv_at hl 4 rfl) ?_
  refine lv_iconst (v := nI k) hx hb d2 hk ?_
  refine lv_iadd hx hb d3 ?_
  rw [nI_add]
  refine va_sld hx hb hX hbl (Nat.not_le.mpr hbl) hI.2.2.2 (vp_in_nI hik (by omega)) d4 ?_
  rw [nI_clamp (by omega)]
  exact h H locs ls hI hl
theorem l_bool (C : lC p s m meth c XC XM cJ ob b L xs) (n : Nat) {x : Int32} (d0 : decode code pc = .ok (.ifCond .eq 7, 3)) (d1 : decode code (pc + 3) = .ok (.iconst 1, 1)) (d2 : decode code (pc + 4) = .ok (.goto 4, 3)) (d3 : decode code (pc + 7) = .ok (.iconst 0, 1)) (hn : pc + 8 = n)
    (h : lG p e s m below meth c XC XM cJ ob b n i (.int (zbo x) :: st) σc σm g cells slots) : lG p e s m below meth c XC XM cJ ob b pc i (.int x :: st) σc σm g cells slots := by
  subst hn
  intro H locs ls hI hl
  obtain ⟨hx, hb, -⟩ := C
  have h1 := h H locs ls hI hl
  refine lv_if_eq (tgt := pc + 7) hx hb d0 (by omega) (fun hc => ?_) (fun hc => ?_)
  · refine lv_iconst (v := 0) hx hb d3 (by decide) ?_
    rw [show zbo x = 0 from if_pos hc] at h1
    exact h1
  · refine lv_iconst (v := 1) hx hb d1 (by decide) ?_
    refine lv_goto (tgt := pc + 8) hx hb d2 (by omega) ?_
    rw [show zbo x = 1 from if_neg hc] at h1
    exact h1
theorem l_callC (C : lC p s m meth c XC XM cJ ob b L xs) {n ix na : Nat} {M' : zM} {As : List Value} {o : Option Value × zS} (hd : decode code pc = .ok (.invokevirtual ix, 3)) (hn : pc + 3 = n) (hlk : Cond.methodLink R_law ix M'.1 ∈ zTT) (hm : zMV M' na) (hcl : M'.1.cls = RX10) (hC : zCN XC WC 40 M' (.ref 0 :: As) σc o) (hlen : As.length = na) (hA : As.map (zv XC) = As) (hst : (st.map fun v => v.category).sum ≤ 8) (hcs : cells ≤ 601024 ∧ slots ≤ 7293033)
    (h : lG p e s m below meth c XC XM cJ ob b n i ((o.1.map (zv XC)).toList ++ st) o.2 σm g cells slots) : lG p e s m below meth c XC XM cJ ob b pc i (As.reverse ++ .ref (za XC 0) :: st) σc σm g cells slots := by
  subst hn
  intro H locs ls hI hl
  obtain ⟨hx, hb, hr, hml, hown, hts, hX, hbl, hlk2, hL, hSC, hSM, hXu, hAr, hdis, ho1, ho2, ho3, hl1⟩ := C
  obtain ⟨hPC, hPM, hob, hS⟩ := hI
  have h0lt : (0 : Nat) < WC.1 := by decide
  have hrec : ∃ cell : Cell, H[za XC 0]? = some cell ∧ cell.vm.isStatics = false ∧ s.vm.findClass M'.1.cls = some cell.cls := by
    rw [hcl]
    exact va_recv hSC.1 hPC (ci := 10) (q0 := 0) (q := (RX10, TX10, 13)) (fs := zfs XC σc 0 10) rfl (by rw [zw_get h0lt, show WC.2 0 = (10, 0) from rfl, zE_obj (by decide)])
  have key := zW_callV (X := XC) (w := WC) (e := e) (below := below) (meth := meth) (H := H) (locs := locs) (cells := cells) (slots := slots) (Q := lw_Z below #[Value.ref b] s) (ls := ls) (rest := st) (R := room_1) (a := 0) (As := As) hx hb hml hown hts hd hlk hm (d := 40) ⟨by decide, by decide⟩ hC hrec (fun U hU hW => l_zB hSC hPC hS U hU hW) hlen hl.1 hst hcs (fun H1 L1 hP1 z1 k1 l1 => ?_)
  · rw [hA] at key
    exact key
  · refine h H1 (locs ++ L1) ls ⟨hP1, hPM.kept (fun k q hk => k1 q.1 ((hPM k q hk).lt) (fun z => hdis _ z ((zw_D hSM.2.1).2 k q hk))), by rw [k1 ob (Array.getElem?_eq_some_iff.mp hob).1 ho1]; exact hob, ?_⟩ hl
    exact zS_ext hS z1 (fun q g1 g2 => k1 q g1 (fun z => g2 (hSC.2.2.2 q z))) (fun l hl => hSC.2.2.2 _ (l1 l hl))
theorem l_callM (C : lC p s m meth c XC XM cJ ob b L xs) {n ix na : Nat} {M' : zM} {As : List Value} {o : Option Value × zS} (hd : decode code pc = .ok (.invokevirtual ix, 3)) (hn : pc + 3 = n) (hlk : Cond.methodLink R_law ix M'.1 ∈ zTT) (hm : zMV M' na) (hcl : M'.1.cls = RX11) (hC : zCN XM WM 40 M' (.ref 0 :: As) σm o) (hlen : As.length = na) (hA : As.map (zv XM) = As) (hst : (st.map fun v => v.category).sum ≤ 8) (hcs : cells ≤ 601024 ∧ slots ≤ 7293033)
    (h : lG p e s m below meth c XC XM cJ ob b n i ((o.1.map (zv XM)).toList ++ st) σc o.2 g cells slots) : lG p e s m below meth c XC XM cJ ob b pc i (As.reverse ++ .ref (za XM 0) :: st) σc σm g cells slots := by
  subst hn
  intro H locs ls hI hl
  obtain ⟨hx, hb, hr, hml, hown, hts, hX, hbl, hlk2, hL, hSC, hSM, hXu, hAr, hdis, ho1, ho2, ho3, hl1⟩ := C
  obtain ⟨hPC, hPM, hob, hS⟩ := hI
  have h0lt : (0 : Nat) < WM.1 := by decide
  have hrec : ∃ cell : Cell, H[za XM 0]? = some cell ∧ cell.vm.isStatics = false ∧ s.vm.findClass M'.1.cls = some cell.cls := by
    rw [hcl]
    exact va_recv hSM.1 hPM (ci := 11) (q0 := 0) (q := (RX11, TX11, 40)) (fs := zfs XM σm 0 11) rfl (by rw [zw_get h0lt, show WM.2 0 = (11, 0) from rfl, zE_obj (by decide)])
  have key := zW_callV (X := XM) (w := WM) (e := e) (below := below) (meth := meth) (H := H) (locs := locs) (cells := cells) (slots := slots) (Q := lw_Z below #[Value.ref b] s) (ls := ls) (rest := st) (R := room_1) (a := 0) (As := As) hx hb hml hown hts hd hlk hm (d := 40) ⟨by decide, by decide⟩ hC hrec (fun U hU hW => l_zB hSM hPM hS U hU hW) hlen hl.1 hst hcs (fun H1 L1 hP1 z1 k1 l1 => ?_)
  · rw [hA, hl1] at key
    exact key
  · rw [hl1]
    refine h H1 (locs ++ L1) ls ⟨hPC.kept (fun k q hk => k1 q.1 ((hPC k q hk).lt) (fun z => hdis _ ((zw_D hSC.2.1).2 k q hk) z)), hP1, by rw [k1 ob (Array.getElem?_eq_some_iff.mp hob).1 ho2]; exact hob, ?_⟩ hl
    exact zS_ext hS z1 (fun q g1 g2 => k1 q g1 (fun z => g2 (hSM.2.2.2 q z))) (fun l hl => hSM.2.2.2 _ (l1 l hl))
/-- two answers that are alike: on to the loop's end -/
theorem l_eqI (C : lC p s m meth c XC XM cJ ob b L xs) {a : Int} {x : Int32} (hd : decode code pc = .ok (.if_icmp .eq a, 3)) (ht : (pc : Int) + a = (1903 : Int)) (h : lG p e s m below meth c XC XM cJ ob b 1903 i st σc σm g cells slots) : lG p e s m below meth c XC XM cJ ob b pc i (.int x :: .int x :: st) σc σm g cells slots := by
  intro H locs ls hI hl
  exact lv_icmp_eq C.1 C.2.1 hd ht (fun _ => h H locs ls hI hl) (fun q => absurd rfl q)
theorem l_eqL (C : lC p s m meth c XC XM cJ ob b L xs) {a : Int} {x : Int64} (hd : decode code pc = .ok (.lcmp, 1)) (hd1 : decode code (pc + 1) = .ok (.ifCond .eq a, 3)) (ht : ((pc + 1 : Nat) : Int) + a = (1903 : Int)) (h : lG p e s m below meth c XC XM cJ ob b 1903 i st σc σm g cells slots) : lG p e s m below meth c XC XM cJ ob b pc i (.long x :: .long x :: st) σc σm g cells slots := by
  intro H locs ls hI hl
  refine W.lcmp C.1 C.2.1 hd ?_
  have e1 : lg_cmp x x = 0 := by unfold lg_cmp; rw [if_neg (by simp), if_pos rfl]
  rw [e1]
  exact lv_if_eq C.1 C.2.1 hd1 ht (fun _ => h H locs ls hI hl) (fun q => absurd rfl q)
end LAW
