theorem st_fresh (XC XM : zX) (B B2 : Nat) : ∃ SC SM : zN, zCI XC B 4 M_X10_init 0 ([(10, 0)], zS0) SC 87 2264 ∧ zCI XM B2 4 M_X11_init 0 ([(11, 0)], zS0) SM 17 2483 ∧ SC.1.length = 88 ∧ SM.1.length = 18 ∧ Rel SC.2 SM.2 ∧ (∀ H : Heap, va_P XC.2.1 vwCl (zwn XC SC) H → va_P XC.2.1 vwCl (zw XC WC SC.2) H) ∧ (∀ H : Heap, va_P XM.2.1 vwCl (zwn XM SM) H → va_P XM.2.1 vwCl (zw XM WM SM.2) H) :=
  ⟨i_X10, i_X11, ci_X10 XC B 4 (by decide), ci_X11 XM B2 4 (by decide), len10, len11, Rel_0, fun H h => zP_10 h, fun H h => zP_11 h⟩
set_option maxHeartbeats 4000000 in
/-- THE LAW, from its entry -/
theorem whole_start {p : Program} {e : Env} {s : State} {m : MethodId} {below : List Frame} {meth : Method} {c : Code} (l : Launch) (hflags : l.flags = flags0) {b L : Nat} {xs : Nat → Int32} (hL : L ≤ 3072) (C0 : lw_At p s m meth c b L xs) : W p l e room_1 s m #[Value.ref b] below meth c s.heap [] 0 0 (lw_Z below #[Value.ref b] s) (entryFrame m ([Value.ref b] : List Value).toArray 7) := by
  obtain ⟨D, cA, adK, adV, cJ, C, hN, hJn⟩ := st_C l hflags hL C0
  obtain ⟨XC, eC⟩ : ∃ X : zX, X = (l, D, fun k => s.heap.size + k, cA, adK, adV) := ⟨_, rfl⟩
  obtain ⟨XM, eM⟩ : ∃ X : zX, X = (l, D, fun k => s.heap.size + 88 + k, cA, adK, adV) := ⟨_, rfl⟩
  rw [← eC, ← eM] at C
  have hAC : zAd XC s.heap.size := by rw [eC]; exact fun k => rfl
  have hAM : zAd XM (s.heap.size + 88) := by rw [eM]; exact fun k => rfl
  have hl1 : XC.1 = l := by rw [eC]
  have hl2 : XM.1 = l := by rw [eM]
  clear eC eM
  obtain ⟨SC, SM, h10, h11, n10, n11, hRel, w10, w11⟩ := st_fresh XC XM s.heap.size (s.heap.size + 88)
  obtain ⟨hx, hb, hr, hml, hown, hts, hX, hbl, hlk, -, hSC, hSM, hXu, hAr, hdis, ho1, ho2, ho3, hl3⟩ := id C
  have hl := lv_entry ([.ref b]) (n := 7) (Nat.le_of_ble_eq_true rfl)
  rw [lg_entry_eq]
  generalize (lg_sl ([.ref b]) ++ List.replicate (7 - (lg_sl ([.ref b])).length) Slot.unset).toArray = ls at hl ⊢
  have hl : lv_has ls 7 [(0, .ref b)] := hl
  rw [← hl1]
  refine st_obj (X := XC) (B := s.heap.size) (S := SC) hx hb hml hown hts hSC.1 hAC hN hl.1 zc_10 (zTT_in (i := 159) (by decide +kernel) rfl) zin_10 zit_10 zdv_10 (zTT_in (i := 161) (by decide +kernel) rfl) F_X10_init h10 n10 (by omega) (ld_e 0 rfl) (ld_e 1 rfl) (ld_e 2 rfl) rfl rfl (Nat.le_of_ble_eq_true rfl) (Nat.le_of_ble_eq_true rfl) (fun H1 L1 hP1 z1 o1 g1 => ?_)
  refine lv_astore_n (lv' := [(1, .ref (za XC 0)), (0, .ref b)]) hx hb (ld_e 3 rfl) rfl hl (by decide) rfl (fun ls hl => ?_)
  rw [hl1, ← hl2]
  refine st_obj (X := XM) (B := s.heap.size + 88) (S := SM) hx hb hml hown hts hSM.1 hAM hN hl.1 zc_11 (zTT_in (i := 1295) (by decide +kernel) rfl) zin_11 zit_11 zdv_11 (zTT_in (i := 1297) (by decide +kernel) rfl) F_X11_init h11 n11 (by omega) (ld_e 4 rfl) (ld_e 5 rfl) (ld_e 6 rfl) (by omega) rfl (Nat.le_of_ble_eq_true rfl) (Nat.le_of_ble_eq_true rfl) (fun H2 L2 hP2 z2 o2 g2 => ?_)
  refine lv_astore_n (lv' := [(2, .ref (za XM 0)), (1, .ref (za XC 0)), (0, .ref b)]) hx hb (ld_e 7 rfl) rfl hl (by decide) rfl (fun ls hl => ?_)
  refine lv_iconst (v := 1) hx hb (ld_e 8 rfl) (by decide) ?_
  refine va_newaK (atype := .long) (h := s.heap.size + 106) (N := 1) hx hb (hts _ (zTT_in (i := 2016) (by decide +kernel) rfl)) rfl (ld_e 9 rfl) (rest := []) rfl (by decide) (by decide) (by decide) (Nat.le_of_ble_eq_true rfl) (Nat.le_of_ble_eq_true rfl) (by omega) (fun H3 cA3 e3 z3 o3 hAr3 hNm3 => ?_)
  have ecJ : cA3 = cJ := Option.some.inj (hNm3.symm.trans hJn)
  subst ecJ
  rw [hl2, ← hl1]
  show W p XC.1 e room_1 s m #[Value.ref b] below meth c H3 (([] ++ L1) ++ L2) 107 4801 (lw_Z below #[Value.ref b] s) (F0 m 19 ls [.ref (s.heap.size + 106)])
  refine lv_astore_n (lv' := [(3, .ref (s.heap.size + 106)), (2, .ref (za XM 0)), (1, .ref (za XC 0)), (0, .ref b)]) hx hb (ld_e 10 rfl) rfl hl (by decide) rfl (fun ls hl => ?_)
  refine lv_iconst (v := nI 0) hx hb (ld_e 11 rfl) (by decide) ?_
  refine lv_istore (lv' := [(4, .int (nI 0)), (3, .ref (s.heap.size + 106)), (2, .ref (za XM 0)), (1, .ref (za XC 0)), (0, .ref b)]) hx hb (ld_e 12 rfl) hl (by decide) rfl (fun ls hl => ?_)
  have K := l_loop C (lw_case_50 (e := e) (below := below) C) L 0 (by omega) (by omega) SC.2 SM.2 (fun _ => 0) 107 4801 hRel (by omega) (by omega)
  refine K H3 (([] ++ L1) ++ L2) ls ⟨?_, ?_, ?_, ?_, ?_, ?_⟩ (lv_sub hl [4, 3, 2, 1, 0] rfl)
  · have hP := w10 H1 hP1
    exact hP.kept (fun k q hk => by
      have := (hP k q hk).lt
      exact (o3 q.1 (by omega)).trans (o2 q.1 (by omega)))
  · have hP := w11 H2 hP2
    exact hP.kept (fun k q hk => by
      have := (hP k q hk).lt
      exact o3 q.1 (by omega))
  · rw [e3]
    rfl
  · omega
  · intro q g1 g2
    exact (o3 q (by omega)).trans ((o2 q (by omega)).trans (o1 q (by omega)))
  · intro l hl
    rw [List.nil_append] at hl
    rcases List.mem_append.mp hl with z | z
    · exact g1 l z
    · exact Nat.le_trans (Nat.le_add_right _ _) (g2 l z)
set_option maxHeartbeats 4000000 in
theorem lw_walk (l : Launch) (hflags : l.flags = flags0) (b : Addr) (xs : List Int32) : MetFree l x (headSpec (Jvm.Cond.code x code maxLocals ret :: tables_1) room_1) (lw_P b xs) (fun _ _ _ _ _ => True) lw_Q := by
  refine MetFree.of_bodyS (code := code) (maxLocals := maxLocals) (ret := ret) (by decide) ?_ ?_
  · intro args s m h hn
    obtain ⟨meth, c, h1, h2, h3, h4, h5, h6, -, -⟩ := Cond.code_spec hn (atoms_spec (ws := Jvm.Cond.code x code maxLocals ret :: tables_1) h _ List.mem_cons_self)
    exact ⟨meth, c, h1, h2, h3, h4, h5, h6⟩
  · intro p e s m args below meth c s₁ B hml0 hP _
    obtain ⟨rfl, hx, hbd, hgv⟩ := hP
    obtain ⟨scr, harrAt, hlist, hof, hsmall⟩ := hx
    obtain ⟨hcb, hkn, -, -⟩ := State.arrayAt?_spec harrAt
    have hown : s.vm.findClass R_law = some m.cls := findClass_of_methodNamed B.named
    have hts0 : ∀ c ∈ (Jvm.Cond.code x code maxLocals ret :: tables_1), c.before #[Value.ref b] s = true := atoms_spec (ws := Jvm.Cond.code x code maxLocals ret :: tables_1) B.pre
    have hts : ∀ w ∈ lw_tbl, w.before #[Value.ref b] s = true := k2_hts_sels lw_privs (fun w hw => hts0 w (List.mem_cons_of_mem _ hw)) lw_privs_ok
    have hml : c.maxLocals = 7 := B.maxLocals_eq (hts0 _ List.mem_cons_self)
    have X₀ : Stand p l e room_1 s m #[Value.ref b] below meth c s₁ [] 0 0 := Stand.of_body B
    have hh0 : s₁.heap = s.heap := by rw [B.state]; rfl
    have hsz : scr.slots.size = xs.length := by rw [← Array.length_toList, hlist, List.length_map]
    have hval : ∀ j : Nat, j < xs.length → scr.slots[j]? = some (.int (xs.getD j 0)) := fun j hj => by
      rw [← Array.getElem?_toList, hlist]
      simp [hj]
    have hbl : b < s.heap.size := (Array.getElem?_eq_some_iff.mp hcb).1
    have hX : va_X b xs.length (fun j => xs.getD j 0) s s.heap := ⟨scr, hcb, hof, hkn, hsz, hval⟩
    have K : W p l e room_1 s m #[Value.ref b] below meth c s₁.heap [] 0 0 (lw_Z below #[Value.ref b] s) (entryFrame m ([Value.ref b] : List Value).toArray 7) := by
      rw [hh0]
      exact whole_start l hflags hbd ⟨B.exec, B.bytes, B.returns, hml, hown, hts, hX, hbl, B.notSynchronized, hgv⟩
    obtain ⟨t, a1, o, b1, b2, b3⟩ := K s₁ rfl X₀
    exact ⟨t, o, a1, b1, b2, b3⟩
theorem lw_pre_spec {args : Array Value} {s : State} (h : (Jvm.Cond.and given_1 narrow_1).before args s = true) (hr : rest_1_c.before args s = true) : ∃ (b : Addr) (xs : List Int32), lw_P b xs args s := by
  have hs := flat_of_before _ h
  have hq := flat_of_before _ hr
  have hc : (Cond.count 1).before args s = true := hs _ (by decide +kernel)
  have harr : (Cond.arrayOf (.arg 0) .int).before args s = true := hs _ (by decide +kernel)
  have hle : (Cond.le (.length (.arg 0)) (.int 3072)).before args s = true := hs _ (by decide +kernel)
  have hlen : (Cond.isInt (.length (.arg 0))).before args s = true := hq _ (by decide +kernel)
  have hall : (Cond.all (.arg 0) (.isInt (.elem (.arg 0) (.index 0)))).before args s = true := hq _ (by decide +kernel)
  obtain ⟨b, xs, hb, hx⟩ := State.ints_of_pre rfl harr hlen hall
  have hsm : xs.length < 2 ^ 31 := hx.choose_spec.2.2.2
  have hev : (Term.length (.arg 0)).eval args s none [] s = some (.int xs.length.toInt32) := hx.length_eval hb
  have hv := Cond.le_ints hev (show (Term.int 3072).eval args s none [] s = some (.int 3072) from rfl)
  have hd : xs.length.toInt32 ≤ 3072 := by
    simpa [Cond.before, Cond.holds, hv] using hle
  have hN : xs.length ≤ 3072 := (Int32.ofNat_le_ofNat hsm (by decide)).mp (show Int32.ofNat xs.length ≤ Int32.ofNat 3072 from hd)
  exact ⟨b, xs, Cond.one_arg hc (show args[0]? = some (.ref b) from hb), hx, hN, h⟩
theorem lw_comes (l : Launch) (hflags : l.flags = flags0) : Comes l x (Jvm.Cond.code x code maxLocals ret :: tables_1) room_1 (fun tb e args s => Calls_1 tb e args s ∧ rest_1 tb e args s ∧ Pre_1 tb e args s)
    (fun _ _ args s o t => lw_Q args s o t) := by
  intro p e ha hc hk s m args below hf hfit hheap happ hpre
  obtain ⟨b, xs, hP⟩ := lw_pre_spec hpre.2.2 hpre.2.1
  obtain ⟨k, o, h1, h2, h3, hQ⟩ := lw_walk l hflags b xs p e ha hc hk s m args below hf ((Spec.applies_iff_loose hf).mp happ).1 hP trivial
  exact ⟨k, o, h1, h2, h3, hQ⟩
theorem lw_frame {s t : State} {o : Outcome} {args : Array Value} (h : Framed s o t [] 601024 7293033) :
    Framed s o t (fieldLocs frame_1_writes args s ++ arrayLocs frame_1_arrays args s ++ staticLocs frame_1_statics s) 601024 7293033 := h
theorem lw_limb (L : Cond) (hL : ∀ (args : Array Value) (s t : State), L.after args s (.returned (some (.int 1))) t = true) :
    ArmFor flags0 classFile x code maxLocals ret World_1 tables_1 room_1 Calls_1 rest_1 Pre_1
      (fun tb e a s o t => postC L tb e a s o t ∧ Framed s o t (fieldLocs frame_1_writes a s ++ arrayLocs frame_1_arrays a s ++ staticLocs frame_1_statics s) 601024 7293033) := by
  intro l hflags _ _ p e ha hc hk s m args below hf hfit hheap happ hpre
  obtain ⟨k, o, h1, h2, h3, rfl, hF⟩ := lw_comes l hflags p e ha hc hk s m args below hf hfit hheap happ hpre
  exact ⟨k, _, h1, h2, h3, hL args s _, lw_frame hF⟩
theorem i_vc : Claimed_1_1 ∧ Claimed_1_2 := ⟨lw_limb limb_1_1 (fun args s t => by simp [limb_1_1, Cond.after, Cond.holds, Cond.value]), lw_limb limb_1_2 (fun args s t => Cond.after_iff.mpr (by
  first | (rw [show limb_1_2 = Cond.eq .result (.int 1) from rfl, Cond.eq_ints (x := 1) (y := 1) rfl rfl]; simp; done) | (simp [limb_1_2, Cond.value, Term.eval]; done)))⟩
