/-! the law's case of led -/
def ltt_50 : List (Nat × Instr × Nat) := [(1809, .aload_n 1, 1), (1810, .aload_n 0, 1), (1811, .iload 4, 2), (1813, .iconst 1, 1), (1814, .iadd, 1), (1815, .iaload, 1), (1816, .aload_n 3, 1), (1817, .invokestatic 231, 3), (1820, .istore 5, 2), (1822, .aload_n 2, 1), (1823, .aload_n 0, 1), (1824, .iload 4, 2), (1826, .iconst 1, 1), (1827, .iadd, 1), (1828, .iaload, 1), (1829, .invokevirtual 236, 3), (1832, .istore 6, 2), (1834, .aload_n 2, 1), (1835, .invokevirtual 237, 3), (1838, .iload 5, 2), (1840, .if_icmp .eq 5, 3), (1845, .iload 5, 2), (1847, .ifCond .ne 15, 3), (1850, .aload_n 3, 1), (1851, .iconst 0, 1), (1852, .laload, 1), (1853, .iload 6, 2), (1855, .i2l, 1), (1856, .lcmp, 1), (1857, .ifCond .eq 5, 3), (1862, .goto 41, 3)]
theorem ld0_50 : ∀ q ∈ ltt_50, decode code q.1 = .ok q.2 := by decide +kernel
theorem ld_50 (i : Nat) {pc n : Nat} {g : Instr} (h : ltt_50[i]? = some (pc, g, n)) : decode code pc = .ok (g, n) := ld0_50 (pc, g, n) (List.mem_of_getElem? h)
theorem zl50a : Cond.methodLink R_law 231 yLled ∈ zTT := zTT_in (i := 1226) (by decide +kernel) rfl
theorem zl50b : Cond.static yLled ∈ zTT := zTT_in (i := 1227) (by decide +kernel) rfl
theorem zl50c : Cond.initialized yLled.cls ∈ zTT := zTT_in (i := 135) (by decide +kernel) rfl
theorem zl50d : Cond.methodLink R_law 236 M_X11_led.1 ∈ zTT := zTT_in (i := 2004) (by decide +kernel) rfl
theorem zl50e : Cond.methodLink R_law 237 M_X11_thrown.1 ∈ zTT := zTT_in (i := 1422) (by decide +kernel) rfl
theorem zLb_blind {X : zX} {cJ : ClassId} {ob : Nat} {σ : zS} {g0 : Nat → Int64} (av : List Value) : FrameBlind (va_Pc av (zLb X cJ ob σ g0)) := fun a U g mk q =>
  ⟨q.1, ⟨q.2.1.1, va_K.moved (u := U) (U := U.calling g mk a) (Vm.Alike.refl U.vm) q.2.1.2.1, q.2.1.2.2.1, zV.warm (s := U) (U := U.calling g mk a) (State.WarmedH.refl U) q.2.1.2.2.2⟩, zXu.at (s := U) (U := U.calling g mk a) q.2.2.1 va_S.rf rfl (State.WarmedH.refl U), q.2.2.2.1, arrOfT_moved (u := U) (E := U.calling g mk a) (Vm.Alike.refl U.vm) q.2.2.2.2.1, q.2.2.2.2.2⟩
theorem zG50 : GoodIn zTT (va_wsS R_law 231 yLled (wLled :: zTT)) := by
  intro v hv
  unfold va_wsS at hv
  rcases List.mem_append.mp hv with hv | hv
  · have : v ∈ zTT := by
      simp only [List.mem_cons, List.not_mem_nil, or_false] at hv
      rcases hv with rfl | rfl | rfl
      · exact zl50a
      · exact zl50b
      · exact zl50c
    exact ⟨this, zTT_good this⟩
  · have : v ∈ zTT := by
      rcases List.mem_cons.mp hv with rfl | hv
      · exact wLled_in
      · exact hv
    exact ⟨this, zTT_good this⟩
section L50
variable {p : Program} {e : Env} {s : State} {m : MethodId} {below : List Frame} {meth : Method} {c : Code} {XC XM : zX} {cJ : ClassId} {ob b L : Nat} {xs : Nat → Int32}
/-- a call of the model, at any locals -/
theorem l_callMW (C : lC p s m meth c XC XM cJ ob b L xs) {pc n ix na : Nat} {M' : zM} {As st : List Value} {o : Option Value × zS} {σc σm : zS} {g : Nat → Int64} {cells slots : Nat} {H : Heap} {locs : List Loc} {ls : Array Slot} (hI : lI XC XM cJ ob σc σm g s H locs) (hsz : ls.size = 7) (hd : decode code pc = .ok (.invokevirtual ix, 3)) (hn : pc + 3 = n) (hlk : Cond.methodLink R_law ix M'.1 ∈ zTT) (hm : zMV M' na) (hcl : M'.1.cls = RX11) (hC : zCN XM WM 40 M' (.ref 0 :: As) σm o) (hlen : As.length = na) (hA : As.map (zv XM) = As) (hst : (st.map fun v => v.category).sum ≤ 8) (hcs : cells ≤ 601024 ∧ slots ≤ 7293033)
    (h : ∀ (H1 : Heap) (locs1 : List Loc), lI XC XM cJ ob σc o.2 g s H1 locs1 → W p XC.1 e room_1 s m #[Value.ref b] below meth c H1 locs1 cells slots (lw_Z below #[Value.ref b] s) (F0 m n ls ((o.1.map (zv XM)).toList ++ st))) : W p XC.1 e room_1 s m #[Value.ref b] below meth c H locs cells slots (lw_Z below #[Value.ref b] s) (F0 m pc ls (As.reverse ++ .ref (za XM 0) :: st)) := by
  subst hn
  obtain ⟨hx, hb, hr, hml, hown, hts, hX, hbl, hlk2, hL, hSC, hSM, hXu, hAr, hdis, ho1, ho2, ho3, hl1⟩ := C
  obtain ⟨hPC, hPM, hob, hS⟩ := hI
  have h0lt : (0 : Nat) < WM.1 := by decide
  have hrec : ∃ cell : Cell, H[za XM 0]? = some cell ∧ cell.vm.isStatics = false ∧ s.vm.findClass M'.1.cls = some cell.cls := by
    rw [hcl]
    exact va_recv hSM.1 hPM (ci := 11) (q0 := 0) (q := (RX11, TX11, 40)) (fs := zfs XM σm 0 11) rfl (by rw [zw_get h0lt, show WM.2 0 = (11, 0) from rfl, zE_obj (by decide)])
  have key := zW_callV (X := XM) (w := WM) (e := e) (below := below) (meth := meth) (H := H) (locs := locs) (cells := cells) (slots := slots) (Q := lw_Z below #[Value.ref b] s) (ls := ls) (rest := st) (R := room_1) (a := 0) (As := As) hx hb hml hown hts hd hlk hm (d := 40) ⟨by decide, by decide⟩ hC hrec (fun U hU hW => l_zB hSM hPM hS U hU hW) hlen hsz hst hcs (fun H1 L1 hP1 z1 k1 l1 => ?_)
  · rw [hA, hl1] at key
    exact key
  · rw [hl1]
    refine h H1 (locs ++ L1) ⟨hPC.kept (fun k q hk => k1 q.1 ((hPC k q hk).lt) (fun z => hdis _ ((zw_D hSC.2.1).2 k q hk) z)), hP1, by rw [k1 ob (Array.getElem?_eq_some_iff.mp hob).1 ho2]; exact hob, ?_⟩
    exact zS_ext hS z1 (fun q g1 g2 => k1 q g1 (fun z => g2 (hSM.2.2.2 q z))) (fun l hl => hSM.2.2.2 _ (l1 l hl))
theorem lw_case_50 (C : lC p s m meth c XC XM cJ ob b L xs) : H50 p e s m below meth c XC XM cJ ob b L := by
  intro i σc σm g cells slots hi h1 h2 hR K
  obtain ⟨r, σm1, q1, q2, q3, hR1⟩ := O_led σc σm (xs (i + 1)) hR
  refine l_aload C (k := 1) (ld_50 0 rfl) rfl rfl ?_
  refine l_arg C 1 1816 (ld_50 1 rfl) (ld_50 2 rfl) (ld_50 3 rfl) (ld_50 4 rfl) (ld_50 5 rfl) (by decide) (by omega) rfl ?_
  refine l_aload C (k := 3) (ld_50 6 rfl) rfl rfl ?_
  intro H locs ls hI hl
  have C0 := C
  obtain ⟨hx, hb, hr, hml, hown, hts, hX, hbl, hlk2, hL, hSC, hSM, hXu, hAr, hdis, ho1, ho2, ho3, hl1⟩ := C
  obtain ⟨hPC, hPM, hob, hS⟩ := hI
  have hrun := vx_runSW (p := p) (l := XC.1) (e := e) (below := below) (meth := meth) (H := H) (locs := locs) (cells := cells) (slots := slots) (As := [.ref (za XC 0), .int (xs (i + 1)), .ref ob]) (rest := []) (g := F0 m 1817 ls [.ref ob, .int (xs (i + 1)), .ref (za XC 0)]) (R := room_1) ⟨hx, hb, hml, hown, hts⟩ (c_Lled XC cJ 40 ob (by omega) (xs (i + 1)) σc σc g r q1) (vx_cwSW 3 hts zG50 rfl rfl rfl ⟨by decide, by decide, by decide +kernel⟩ ⟨by decide, by decide⟩)
    ⟨zLb_blind _, fun U hU hW => ⟨rfl, l_zB hSC hPC hS U hU hW, zXu.at (locs := []) hXu ⟨hS.1, fun q g1 _ => hS.2.1 q g1 (Nat.not_le.mpr g1), fun l hl => absurd hl List.not_mem_nil⟩ hU hW, by rw [hU]; exact hob, arrOfT_moved hW.alike hAr, ho1⟩⟩ rfl rfl hl.1 rfl (lv_room (Nat.le_of_ble_eq_true rfl)) (ld_50 7 rfl) ⟨h1, h2⟩
  intro T hT Xs
  obtain ⟨v, st₀, t, T', L1, e0, X', hL1, e1, e2, hq, st⟩ := hrun T hT Xs
  obtain ⟨hv, hP1, hob1, hz, hk⟩ := hq
  cases hv
  rw [e0] at hz hk
  have ek : (zLq r g).1 = rT r := by cases r <;> rfl
  obtain ⟨g1, eg⟩ : ∃ g1, (zLq r g).2 = g1 := ⟨_, rfl⟩
  rw [eg] at hob1
  have hI1 : lI XC XM cJ ob σc σm g1 s T'.heap (locs ++ L1) := by
    refine ⟨by rw [e1]; exact hP1, hPM.kept (fun k q hk' => ?_), by rw [e1]; exact hob1, zS_ext hS (by rw [e1]; exact hz) (fun q g2 g3 => ?_) (fun l hl => ?_)⟩
    · rw [e1]
      exact hk q.1 ((hPM k q hk').lt) (fun z => z.elim (fun z => hdis _ z ((zw_D hSM.2.1).2 k q hk')) (fun z => ho2 (by rw [← z]; exact (zw_D hSM.2.1).2 k q hk')))
    · rw [e1]
      exact hk q g2 (fun z => z.elim (fun z => g3 (hSC.2.2.2 q z)) (fun z => g3 (by rw [z]; exact ho3)))
    · exact (hL1 l hl).elim (fun z => hSC.2.2.2 _ z) (fun z => by rw [z]; exact ho3)
  have key : W p XC.1 e room_1 s m #[Value.ref b] below meth c T'.heap (locs ++ L1) (cells + 1) (slots + 6) (lw_Z below #[Value.ref b] s) (F0 m 1820 ls [.int (zLq r g).1]) := by
    rw [ek]
    refine lv_istore (i := 5) (lv' := (5, .int (rT r)) :: lLs XC XM ob b i) hx hb (ld_50 8 rfl) hl (by decide) rfl (fun ls5 hl5 => ?_)
    refine lv_aload_n hx hb (ld_50 9 rfl) rfl (lv_at hl5 3 rfl) ?_
    refine lv_aload_n hx hb (ld_50 10 rfl) rfl (lv_at hl5 1 rfl) ?_
    refine lv_iload hx hb (ld_50 11 rfl) (lv_at hl5 5 rfl) ?_
    refine lv_iconst (v := nI 1) hx hb (ld_50 12 rfl) (by decide) ?_
    refine lv_iadd hx hb (ld_50 13 rfl) ?_
    rw [nI_add]
    refine va_sld hx hb hX hbl (Nat.not_le.mpr hbl) hI1.2.2.2 (vp_in_nI (by omega) (by omega)) (ld_50 14 rfl) ?_
    rw [nI_clamp (by omega)]
    refine l_callMW (n := 1832) (As := [.int (xs (i + 1))]) (st := []) (o := (some (.int (rI r)), σm1)) C0 hI1 hl5.1 (ld_50 15 rfl) rfl zl50d F_X11_led rfl (c_X11_led XM 40 (by omega) 0 (xs (i + 1)) σm (rI r) σm1 q2) rfl rfl (Nat.le_of_ble_eq_true rfl) ⟨by omega, by omega⟩ (fun H2 locs2 hI2 => ?_)
    refine lv_istore (i := 6) (lv' := (6, .int (rI r)) :: (5, .int (rT r)) :: lLs XC XM ob b i) hx hb (ld_50 16 rfl) hl5 (by decide) rfl (fun ls6 hl6 => ?_)
    refine lv_aload_n hx hb (ld_50 17 rfl) rfl (lv_at hl6 4 rfl) ?_
    refine l_callMW (n := 1838) (As := []) (st := []) (o := (some (.int (rT r)), σm1)) C0 hI2 hl6.1 (ld_50 18 rfl) rfl zl50e F_X11_thrown rfl (c_X11_thrown XM 40 0 σm1 (rT r) σm1 (by unfold f_X11_thrown; rw [zck_t w0, q3])) rfl rfl (Nat.le_of_ble_eq_true rfl) ⟨by omega, by omega⟩ (fun H3 locs3 hI3 => ?_)
    refine lv_iload hx hb (ld_50 19 rfl) (lv_at hl6 1 rfl) ?_
    have fin : W p XC.1 e room_1 s m #[Value.ref b] below meth c H3 locs3 (cells + 1) (slots + 6) (lw_Z below #[Value.ref b] s) (F0 m 1862 ls6 []) := by
      refine lv_goto (tgt := 1903) hx hb (ld_50 30 rfl) (by decide) ?_
      exact K σc σm1 g1 (cells + 1) (slots + 6) hR1 (Nat.le_refl _) (Nat.le_refl _) H3 locs3 ls6 hI3 ⟨hl6.1, hl6.2.1, fun q hq => hl6.2.2 q (List.mem_cons_of_mem _ (List.mem_cons_of_mem _ hq))⟩
    refine lv_icmp_eq (tgt := 1845) hx hb (ld_50 20 rfl) (by decide) (fun _ => ?_) (fun q => absurd rfl q)
    refine lv_iload hx hb (ld_50 21 rfl) (lv_at hl6 1 rfl) ?_
    refine lv_if_ne (tgt := 1862) hx hb (ld_50 22 rfl) (by decide) (fun _ => fin) (fun hz0 => ?_)
    have hg0 : g1 0 = (rI r).toInt64 := by
      cases r with
      | none => exact absurd hz0 (by decide)
      | some v0 =>
        rw [← eg]
        show vp_updL g 0 v0.toInt64 0 = v0.toInt64
        simp [vp_updL]
    refine lv_aload_n hx hb (ld_50 23 rfl) rfl (lv_at hl6 5 rfl) ?_
    refine lv_iconst (v := 0) hx hb (ld_50 24 rfl) (by decide) ?_
    refine W.lald (v := .long (g1 0)) hx hb hI3.2.2.1 (hAr 1 (fun j => .long (g1 j))) (fun q => by cases q) (by show ¬ ((0 : Int32) < 0 ∨ (arrV cJ 1 (fun j => .long (g1 j))).slots.size ≤ (0 : Int32).toNatClampNeg); rw [arrV_size]; decide) (by show (arrV cJ 1 (fun j => .long (g1 j))).slots[(0 : Int32).toNatClampNeg]? = _; rw [arrV_read _ _ (by decide)]; rfl) rfl rfl (ld_50 25 rfl) ?_
    refine lv_iload hx hb (ld_50 26 rfl) (lv_at hl6 0 rfl) ?_
    refine lv_i2l (v := g1 0) hx hb (ld_50 27 rfl) hg0.symm ?_
    refine W.lcmp hx hb (ld_50 28 rfl) ?_
    have e9 : lg_cmp (g1 0) (g1 0) = 0 := by unfold lg_cmp; rw [if_neg (by simp), if_pos rfl]
    rw [e9]
    exact lv_if_eq (tgt := 1862) hx hb (ld_50 29 rfl) (show ((1857 : Nat) : Int) + 5 = ((1862 : Nat) : Int) by decide) (fun _ => fin) (fun q => absurd rfl q)
  obtain ⟨t2, a1, b1⟩ := key T' rfl X'
  exact ⟨t2, st t2 a1, b1⟩
end L50
