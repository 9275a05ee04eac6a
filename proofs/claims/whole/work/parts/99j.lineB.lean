/-! lines: places, hands, matters, hidden lines, on both sides -/
section LB2
variable {b : Bool} {tp F R : Nat → Nat} {n a e kd : Nat} {N : nT} {σc σm : zS}
theorem OC_c {e0 : Nat} {rc rc' : Option (Int32 × zS)} {rm : Option (Unit × zS)} (h : rc = rc') (g : OC b tp n e0 σc σm rc' rm) : OC b tp n e0 σc σm rc rm := h ▸ g
theorem OC_m {e0 : Nat} {rc : Option (Int32 × zS)} {rm rm' : Option (Unit × zS)} (h : rm = rm') (g : OC b tp n e0 σc σm rc rm') : OC b tp n e0 σc σm rc rm := h ▸ g
theorem z10 : ¬ (1 : Int32) = 0 := by decide
theorem wr_2 (σ : zS) (x y : Int32) : (wr σ x y).2 = σ.2 := rfl
theorem wr_4 (σ : zS) (x y : Int32) (k : Nat) : (wr σ x y).1 4 k = σ.1 4 k := by unfold wr; rw [zpi_ne _ _ (by omega), zpi_ne _ _ (by omega), zpi_ne _ _ (by omega)]
theorem L_place {a0 e0 kd0 : Nat} {σ0 ρ0 : zS} (h0 : SS b tp n F R N a0 e0 kd0 σ0 ρ0) (V : VV tp n F R N) (h9 : F 9 = 1) (nx : f_X9_next 2 σ0 = some ((), σc)) (ad : Adv b tp n F R N e0 σ0 ρ0 a e kd σc σm) (hb : F 1 < 6) : OC b tp n e0 σ0 ρ0 (f_X8_readPlace 1 σ0) (f_X11_placeLine 0 σm) := by
  obtain ⟨r10, r12, -, -, kL⟩ := h0.q
  have hS := ad.1
  obtain ⟨-, -, hR, h13, -⟩ := hS.q
  have hv := Ld_v b
  obtain ⟨v0, v1, v2, v3, v4, v6, v8⟩ := V.1.1
  have hb3 : F 1 ≤ 6 ∧ F 3 ≤ 4 ∧ F 4 ≤ 4 := ⟨v1, v3, v4⟩
  apply OC_c
  · unfold f_X8_readPlace
    rw [zck_t k1, r12, zck_t kL, zlt_e, h0.g.1.2.1, zbr_t (show nI (F 1) < (6 : Int32) from nI_lt (b := 6) hb (by decide)), r10, zck_t k2, nx, zbd_s]
  apply OC_m
  · unfold f_X11_placeLine
    rw [zck_t w0, zbr_t h13, mr16 hR, w4, zck_t (by decide), cl1, hS.r4 1 (by omega), px10, zlt_e, zck_t (by decide)]
  rcases P_newName hS V.2.2.1 hb3 (s := 2) (k := F 1) (Or.inl ⟨rfl, rfl, hb⟩) with ⟨a1, e1, kd1, c1, m1, hn, n1, n2, S1, fc1, fm1, l1⟩ | ⟨f, f1, f2, n1, n2⟩
  · have n1 : f_X8_passNewName 1 (2 : Int32) (nI (F 1)) σc = some (1, c1) := n1
    have n2 : f_X11_newName 0 (nI (F 1)) σm = some ((), m1) := n2
    have fC1 := ad.c.tr fc1
    have fM1 := ad.m.tr fm1
    rw [n1, zbd_s, zbr_f z10, n2, zbd_s]
    rcases P_word S1 (j := 10) (by decide) with ⟨-, a2, e2, kd2, c2, m2, p1, p2, p3⟩ | ⟨p1, p2⟩
    · have S2 := p3.1
      have fC2 := fC1.tr p3.c
      have fM2 := fM1.tr p3.m
      obtain ⟨q10, q12, qR, q13, -⟩ := S2.q
      have hk := S2.2.2.k
      rw [p1, zbd_s, zbr_f z10, p2, zbd_s]
      rcases P_whole S2 (lo := 0) (hi := 99) (by decide) (by decide) with ⟨v, -, x1, x2, x3, x4, x5, x6⟩ | ⟨f, f1, f2, x4, x6⟩
      · have x4 : f_X8_isWhole 1 (0 : Int32) (99 : Int32) c2 = some (1, c2) := x4
        have x6 : f_X11_numberHere 0 (0 : Int32) (99 : Int32) m2 = some (nI v, m2) := x6
        have hr : ∀ p, p < F 1 → F (10 + 2 * p) < 1000 := fun p hp => by have := (V.1.2.1 p hp).1; omega
        have M46 := M_46 qR q13 S2.r4 hb hr (v := v) (by omega) (j := 10 + 2 * F 1) (by omega) (nI a2) S2.2.1.2.2.1.1
        rw [x4, zbd_s, zbr_f z10, q10, zck_t k2, q12, zck_t kL, x5, C_hasRank hk S2.g (by omega) hr (by omega), zbd_s, x6, zbd_s, zlt_e, zlt_e]
        cases ea : an (fun p => decide (F (10 + 2 * p) = v)) (F 1) with
        | true =>
          refine OC_bad (f := 3) (by omega) (by omega) ?_ (M46.1 ea) (BC_w fC2 _ _) (((BM_w fM2 _ _).p _ _).p _ _)
          rw [zbr_f (c := bI true = 0) (by decide), C_blame S2.2.1 q10, zbd_s]; rfl
        | false =>
          have hd : ∀ p, p < F 1 → F (10 + 2 * p) ≠ v := fun p hp z => by
            have : an (fun p => decide (F (10 + 2 * p) = v)) (F 1) = true := an_iff.mpr ⟨p, hp, decide_eq_true z⟩
            rw [ea] at this
            exact absurd this (by decide)
          obtain ⟨a3, e3, kd3, c3, m3, y1, y2, y3⟩ := P_num S2 x5
          have S3 := y3.1
          have fC3 := fC2.tr y3.c
          have fM3 := fM2.tr y3.m
          apply OC_c
          · rw [zbr_t (c := bI false = 0) rfl, q12, zck_t kL, y1, zbd_s, hk.2.1.1, hk.2.2.1.1, zck_t (zok_p hb (by decide)), zlt_e, nI_clamp (by omega)]
          refine OC_m (M46.2 ea) ?_
          unfold g46
          apply OC_m
          · rw [y2, zbd_s, mr16 S3.q.2.2.1, w4, zck_t (zok_p (by omega) (by decide)), zlt_e, nI_clamp (by omega), zpi_2, mr16 S3.q.2.2.1, w4, nI_1]
          have S4 : SS b tp n (uF F (10 + 2 * F 1) v) R (adN N (a, e - a, 2, F 1)) a3 e3 kd3 (zpi c3 (Ld b + 1) (F 1) (nI v)) (zpi m3 4 (10 + 2 * F 1) (nI v)) :=
            S3.u ((fr_r _ _).pi _ (by omega)) ((fr_r _ _).pi _ (by omega)) (S3.g.j (a0 := Ld b + 1) (k0 := F 1) ⟨fun k hk => by omega, fun p hp => by omega, fun p hp => by omega, fun p hp => by omega, fun p hp => by omega, fun p hp => by omega, fun p hp => by omega⟩ ⟨fun l hl => by omega, by omega, fun p hp => by omega, fun p hp => by omega, fun p hp => by omega, fun p hp => by omega, fun p hp => by omega, fun p hp => by omega⟩ (fun x l z => zpi_ne _ _ z)) (S3.p.f (fun x l _ _ => zpi_ne _ _ (by omega))) (upR S3.r4 _ _) (fun l hl => (zpi_ne _ _ (by omega)).trans (S3.r6 l hl))
          have fC4 := fC3.tr (pc_d ((fr_r (fun x _ => Ld b ≤ x ∧ x ≤ Ld b + 18) c3).pi (a := Ld b + 1) (k := F 1) (nI v) (by omega)))
          have fM4 := fM3.tr (pm_d ((fr_r (fun x k => x = 6 ∨ (x = 4 ∧ k < 69)) m3).pi (a := 4) (k := 10 + 2 * F 1) (nI v) (by omega)))
          rcases P_after S4 (j := 11) (lo := 1) (hi := 9) (by decide) (by decide) (by decide) with ⟨w, a5, e5, kd5, υ, c5, m5, t1, t2, t3, t4, t5, t6, t7⟩ | ⟨f, y, c5, m5, f1, f2, t3, t6, t7, t8⟩
          · apply OC_c
            · exact t3 _
            have S5 := t7.1
            obtain ⟨g10, g12, gR, g13, -⟩ := S5.q
            have hk5 := S5.2.2.k
            have t6 : f_X11_after 0 (1000 + 11) (1 : Int32) (9 : Int32) (zpi m3 4 (10 + 2 * F 1) (nI v)) = some (nI w, m5) := t6
            have fC5 := fC4.tr t7.c
            have fM5 := fM4.tr t7.m
            have F1 : uF F (10 + 2 * F 1) v 1 = F 1 := upN (by omega)
            have S6 : SS b tp n (uF (uF F (10 + 2 * F 1) v) (11 + 2 * F 1) w) R (adN N (a, e - a, 2, F 1)) a5 e5 kd5 (zpi c5 (Ld b + 2) (F 1) (nI w)) (zpi m5 4 (11 + 2 * F 1) (nI w)) :=
              S5.u ((fr_r _ _).pi _ (by omega)) ((fr_r _ _).pi _ (by omega)) (S5.g.j (a0 := Ld b + 2) (k0 := F 1) (by
                unfold jk
                rw [upN (show 1 ≠ 10 + 2 * F 1 by omega), upN (show 2 ≠ 10 + 2 * F 1 by omega), upN (show 3 ≠ 10 + 2 * F 1 by omega), upN (show 4 ≠ 10 + 2 * F 1 by omega), upN (show 6 ≠ 10 + 2 * F 1 by omega), upN (show 8 ≠ 10 + 2 * F 1 by omega)]
                exact ⟨fun k hk => by omega, fun p hp => by omega, fun p hp => by omega, fun p hp => by omega, fun p hp => by omega, fun p hp => by omega, fun p hp => by omega⟩) (by
                unfold jc
                rw [upN (show 1 ≠ 10 + 2 * F 1 by omega)]
                exact ⟨fun l hl => by omega, by omega, fun p hp => by omega, fun p hp => by omega, fun p hp => by omega, fun p hp => by omega, fun p hp => by omega, fun p hp => by omega⟩) (fun x l z => zpi_ne _ _ z)) (S5.p.f (fun x l _ _ => zpi_ne _ _ (by omega))) (upR S5.r4 _ _) (fun l hl => (zpi_ne _ _ (by omega)).trans (S5.r6 l hl))
            have F2 : uF (uF F (10 + 2 * F 1) v) (11 + 2 * F 1) w 1 = F 1 := (upN (by omega)).trans F1
            have F3 : uF (uF F (10 + 2 * F 1) v) (11 + 2 * F 1) w (10 + 2 * F 1) = v := (upN (by omega)).trans upE
            have F4 : uF (uF F (10 + 2 * F 1) v) (11 + 2 * F 1) w (11 + 2 * F 1) = w := upE
            have S7 : SS b tp n (uF (uF (uF F (10 + 2 * F 1) v) (11 + 2 * F 1) w) 1 (uF (uF F (10 + 2 * F 1) v) (11 + 2 * F 1) w 1 + 1)) R (adN N (a, e - a, 2, F 1)) a5 e5 kd5 (zpi (zpi c5 (Ld b + 2) (F 1) (nI w)) (Ld b) 10 (nI (uF (uF F (10 + 2 * F 1) v) (11 + 2 * F 1) w 1 + 1))) (zpi (zpi m5 4 (11 + 2 * F 1) (nI w)) 4 1 (nI (uF (uF F (10 + 2 * F 1) v) (11 + 2 * F 1) w 1 + 1))) :=
              S6.u ((fr_r _ _).pi _ (by omega)) ((fr_r _ _).pi _ (by omega)) (S6.g.c1 (fun x l z => zpi_ne _ _ z) (zpi_eq _ _ _ _) (by
                rw [F2, F3, F4]
                refine ⟨?_, zpi_eq _ _ _ _⟩
                rw [zpi_ne _ _ (by omega), t7.2.1.2 _ _ (by unfold PtC; omega), zpi_eq])) (S6.p.f (fun x l _ _ => zpi_ne _ _ (by omega))) (upR S6.r4 _ _) (fun l hl => (zpi_ne _ _ (by omega)).trans (S6.r6 l hl))
            have hυ : υ.2 1 2 = Ld b := by rw [t5, zpi_2]; exact S3.q.2.1
            have hkυ : lK (Ld b) υ.2 := by rw [t5, zpi_2]; exact S3.2.2.k
            refine Or.inl ⟨_, R, _, a5, e5, kd5, _, _, ?_, ?_, S7, V.place (r := v) (w := w) hb ?_ ?_ ?_ (fun l z1 z2 z3 => ?_) x2 ⟨t1, t2⟩ hd hn, ?_, ?_, ?_, ?_⟩
            · rw [hυ, zck_t kL, t4, zbd_s, hkυ.2.1.2.1, hkυ.2.2.1.2.1, zck_t (zok_p hb (by decide)), zlt_e, zpi_2, g12, zck_t kL, S6.g.1.2.1, zlt_e, nI_1]; rfl
            · rw [t6, zbd_s, zck_t (zok_p (by omega) (by decide)), zlt_e, nI_clamp (by omega), show 10 + 2 * F 1 + 1 = 11 + 2 * F 1 by omega, zbr_t S6.q.2.2.2.1, zpi_2, mr16 gR, w4, zck_t (by decide), zck_t (by decide), cl1, S6.r4 1 (by omega), zlt_e, nI_1]
            · rw [upE, F2]
            · rw [upN (by omega), F3]
            · rw [upN (by omega), F4]
            · rw [upN z1, upN z3, upN z2]
            · rw [upN (by omega), upN (by omega), upN (by omega), h9]
            · exact fC5.tr ((pc_d ((fr_r (fun x _ => Ld b ≤ x ∧ x ≤ Ld b + 18) c5).pi (a := Ld b + 2) (k := F 1) (nI w) (by omega))).tr (pc_d ((fr_r _ _).pi _ (by omega))))
            · exact fM5.tr ((pm_d ((fr_r (fun x k => x = 6 ∨ (x = 4 ∧ k < 69)) m5).pi (a := 4) (k := 11 + 2 * F 1) (nI w) (by omega))).tr (pm_d ((fr_r _ _).pi _ (by omega))))
            · have := ad.2.2.2
              have := hS.2.1.1.1
              have := S1.2.1.1.1
              have := p3.2.2.2
              have := S2.2.1.1.1
              have := y3.2.2.2
              have := S3.2.1.1.1
              have := t7.2.2.2
              omega
          · have t6 : f_X11_after 0 (1000 + 11) (1 : Int32) (9 : Int32) (zpi m3 4 (10 + 2 * F 1) (nI v)) = some (1, m5) := t6
            refine OC_bad (f := f) f1 f2 (t3 _) ?_ ⟨t7.1, t7.2.1, fC4.tre t7.2.2⟩ (BM.p ⟨t8.1, t8.2.1, t8.2.2.1, fM4.trm t8.2.2.2⟩ (10 + 2 * F 1 + 1) 1)
            rw [t6, zbd_s, zck_t (zok_p (by omega) (by decide)), zlt_e, nI_clamp (by omega), zbr_f (by rw [zpi_ne _ _ (by omega), t8.1]; decide)]
      · have x4 : f_X8_isWhole 1 (0 : Int32) (99 : Int32) c2 = some (0, bl c2 (nI f) (nI a2)) := x4
        have x6 : f_X11_numberHere 0 (0 : Int32) (99 : Int32) m2 = some (0, wr m2 (nI f) (nI a2)) := x6
        refine OC_bad (f := f) (y := nI a2) f1 f2 ?_ ?_ (BC_w fC2 _ _) (((BM_w fM2 _ _).p (10 + 2 * F 1) 0).p (10 + 2 * F 1 + 1) 1)
        · rw [x4, zbd_s, zbr_t (c := (0 : Int32) = 0) rfl]; rfl
        · rw [x6, zbd_s, zlt_e, zlt_e]
          exact Mf_46 (F := F) (j := 10 + 2 * F 1) ((wr_2 _ _ _).trans qR) (wr_13 _ _ _) ((wr_4 _ _ _ _).trans (S2.r4 1 (by omega))) hb 0 (by omega) 0 (Nat.zero_le _) FU (by unfold FU; omega)
    · refine OC_bad (f := 1) (y := nI a1) (by omega) (by omega) ?_ ?_ (BC_w fC1 _ _) (((BM_w fM1 _ _).p (10 + 2 * F 1) 0).p (10 + 2 * F 1 + 1) 1)
      · rw [p1, zbd_s, zbr_t (c := (0 : Int32) = 0) rfl]; rfl
      · rw [p2, zbd_s, Mf_numberHere (wr_13 _ _ _), zbd_s, zlt_e, zlt_e]
        exact Mf_46 (F := F) (j := 10 + 2 * F 1) ((wr_2 _ _ _).trans S1.q.2.2.1) (wr_13 _ _ _) ((wr_4 _ _ _ _).trans (S1.r4 1 (by omega))) hb 0 (by omega) 0 (Nat.zero_le _) FU (by unfold FU; omega)
  · have n1 : f_X8_passNewName 1 (2 : Int32) (nI (F 1)) σc = some (0, bl σc (nI f) (nI a)) := n1
    have n2 : f_X11_newName 0 (nI (F 1)) σm = some ((), wr σm (nI f) (nI a)) := n2
    refine OC_bad (f := f) (y := nI a) f1 f2 ?_ ?_ (BC_w ad.c _ _) (((BM_w ad.m _ _).p (10 + 2 * F 1) 0).p (10 + 2 * F 1 + 1) 1)
    · rw [n1, zbd_s, zbr_t (c := (0 : Int32) = 0) rfl]; rfl
    · rw [n2, zbd_s, Mf_must (wr_13 _ _ _), zbd_s, Mf_numberHere (wr_13 _ _ _), zbd_s, zlt_e, zlt_e]
      exact Mf_46 (F := F) (j := 10 + 2 * F 1) ((wr_2 _ _ _).trans hR) (wr_13 _ _ _) ((wr_4 _ _ _ _).trans (hS.r4 1 (by omega))) hb 0 (by omega) 0 (Nat.zero_le _) FU (by unfold FU; omega)
theorem uF_s {k : Nat} : uF F k (F k) = F := by
  funext j
  by_cases z : j = k
  · rw [z, upE]
  · rw [upN z]
theorem px6 (k : Nat) : (6 : Int32) + nI k = nI (6 + k) := by show nI 6 + nI k = _; rw [nI_add]
theorem px10' (k : Nat) : (10 : Int32) + nI k = nI (10 + k) := by show nI 10 + nI k = _; rw [nI_add]
theorem L_hand {a0 e0 kd0 : Nat} {σ0 ρ0 : zS} (h0 : SS b tp n F R N a0 e0 kd0 σ0 ρ0) (V : VV tp n F R N) (h9 : F 9 = 1) (nx : f_X9_next 2 σ0 = some ((), σc)) (ad : Adv b tp n F R N e0 σ0 ρ0 a e kd σc σm) (hb : F 3 < 4) : OC b tp n e0 σ0 ρ0 (f_X8_readHand 1 σ0) (f_X11_handLine 0 σm) := by
  obtain ⟨r10, r12, -, -, kL⟩ := h0.q
  have hS := ad.1
  obtain ⟨-, -, hR, h13, -⟩ := hS.q
  have hv := Ld_v b
  obtain ⟨v0, v1, v2, v3, v4, v6, v8⟩ := V.1.1
  have hb3 : F 1 ≤ 6 ∧ F 3 ≤ 4 ∧ F 4 ≤ 4 := ⟨v1, v3, v4⟩
  apply OC_c
  · unfold f_X8_readHand
    rw [zck_t k1, r12, zck_t kL, zlt_e, h0.g.1.2.2.2.1, zbr_t (show nI (F 3) < (4 : Int32) from nI_lt (b := 4) hb (by decide)), r10, zck_t k2, nx, zbd_s]
  apply OC_m
  · unfold f_X11_handLine
    rw [zck_t w0, zbr_t h13, mr16 hR, w4, zck_t (by decide), cl3, hS.r4 3 (by omega), px6]
  rcases P_newName hS V.2.2.1 hb3 (s := 4) (k := F 3) (Or.inr (Or.inl ⟨rfl, rfl, hb⟩)) with ⟨a1, e1, kd1, c1, m1, hn, n1, n2, S1, fc1, fm1, l1⟩ | ⟨f, f1, f2, n1, n2⟩
  · have n1 : f_X8_passNewName 1 (4 : Int32) (nI (F 3)) σc = some (1, c1) := n1
    have n2 : f_X11_newName 0 (nI (6 + F 3)) σm = some ((), m1) := n2
    have fC1 := ad.c.tr fc1
    have fM1 := ad.m.tr fm1
    obtain ⟨-, -, gR, -, -⟩ := S1.q
    rw [n1, zbd_s, zbr_f z10, n2, zbd_s]
    apply OC_m
    · rw [mr16 gR, w4, zck_t (by decide), S1.r4 3 (by omega), px34]
    rcases P_after S1 (j := 12) (lo := 0) (hi := 99) (by decide) (by decide) (by decide) with ⟨w, a5, e5, kd5, υ, c5, m5, t1, t2, t3, t4, t5, t6, t7⟩ | ⟨f, y, c5, m5, f1, f2, t3, t6, t7, t8⟩
    · refine OC_c (t3 _) ?_
      have t6 : f_X11_after 0 (1000 + 12) (0 : Int32) (99 : Int32) m1 = some (nI w, m5) := t6
      have S5 := t7.1
      obtain ⟨g10, g12, gR, g13, -⟩ := S5.q
      have fC5 := fC1.tr t7.c
      have fM5 := fM1.tr t7.m
      have S6 : SS b tp n (uF F (34 + F 3) w) R (adN N (a, e - a, 4, F 3)) a5 e5 kd5 (zpi c5 (Ld b + 5) (F 3) (nI w)) (zpi m5 4 (34 + F 3) (nI w)) :=
        S5.u ((fr_r _ _).pi _ (by omega)) ((fr_r _ _).pi _ (by omega)) (S5.g.j (a0 := Ld b + 5) (k0 := F 3) ⟨fun k hk => by omega, fun p hp => by omega, fun p hp => by omega, fun p hp => by omega, fun p hp => by omega, fun p hp => by omega, fun p hp => by omega⟩ ⟨fun l hl => by omega, by omega, fun p hp => by omega, fun p hp => by omega, fun p hp => by omega, fun p hp => by omega, fun p hp => by omega, fun p hp => by omega⟩ (fun x l z => zpi_ne _ _ z)) (S5.p.f (fun x l _ _ => zpi_ne _ _ (by omega))) (upR S5.r4 _ _) (fun l hl => (zpi_ne _ _ (by omega)).trans (S5.r6 l hl))
      have F2 : uF F (34 + F 3) w 3 = F 3 := upN (by omega)
      have F3 : uF F (34 + F 3) w (34 + F 3) = w := upE
      have S7 : SS b tp n (uF (uF F (34 + F 3) w) 3 (uF F (34 + F 3) w 3 + 1)) R (adN N (a, e - a, 4, F 3)) a5 e5 kd5 (zpi (zpi c5 (Ld b + 5) (F 3) (nI w)) (Ld b) 12 (nI (uF F (34 + F 3) w 3 + 1))) (zpi (zpi m5 4 (34 + F 3) (nI w)) 4 3 (nI (uF F (34 + F 3) w 3 + 1))) :=
        S6.u ((fr_r _ _).pi _ (by omega)) ((fr_r _ _).pi _ (by omega)) (S6.g.c3 (fun x l z => zpi_ne _ _ z) (zpi_eq _ _ _ _) (by rw [F2, F3]; exact zpi_eq _ _ _ _)) (S6.p.f (fun x l _ _ => zpi_ne _ _ (by omega))) (upR S6.r4 _ _) (fun l hl => (zpi_ne _ _ (by omega)).trans (S6.r6 l hl))
      have hυ : υ.2 1 2 = Ld b := by rw [t5]; exact S1.q.2.1
      have hkυ : lK (Ld b) υ.2 := by rw [t5]; exact S1.2.2.k
      refine Or.inl ⟨_, R, _, a5, e5, kd5, _, _, ?_, ?_, S7, V.hand (v := w) hb ?_ ?_ (fun l z1 z2 => ?_) t2 hn, ?_, ?_, ?_, ?_⟩
      · rw [hυ, zck_t kL, t4, zbd_s, hkυ.2.1.2.2.2.2.1, hkυ.2.2.1.2.2.2.2.1, zck_t (zok_p hb (by decide)), zlt_e, nI_clamp (by omega), zpi_2, g12, zck_t kL, S6.g.1.2.2.2.1, zlt_e, nI_1]; rfl
      · rw [t6, zbd_s, zck_t (zok_p (by omega) (by decide)), zlt_e, nI_clamp (by omega), zbr_t S6.q.2.2.2.1, zpi_2, mr16 gR, w4, zck_t (by decide), zck_t (by decide), S6.r4 3 (by omega), zlt_e, nI_1]
      · rw [upE, F2]
      · rw [upN (by omega), F3]
      · rw [upN z1, upN z2]
      · rw [upN (by omega), upN (by omega), h9]
      · exact fC5.tr ((pc_d ((fr_r (fun x _ => Ld b ≤ x ∧ x ≤ Ld b + 18) c5).pi (a := Ld b + 5) (k := F 3) (nI w) (by omega))).tr (pc_d ((fr_r _ _).pi _ (by omega))))
      · exact fM5.tr ((pm_d ((fr_r (fun x k => x = 6 ∨ (x = 4 ∧ k < 69)) m5).pi (a := 4) (k := 34 + F 3) (nI w) (by omega))).tr (pm_d ((fr_r _ _).pi _ (by omega))))
      · have := ad.2.2.2
        have := hS.2.1.1.1
        have := S1.2.1.1.1
        have := t7.2.2.2
        omega
    · have t6 : f_X11_after 0 (1000 + 12) (0 : Int32) (99 : Int32) m1 = some (0, m5) := t6
      refine OC_bad (f := f) f1 f2 (t3 _) ?_ ⟨t7.1, t7.2.1, fC1.tre t7.2.2⟩ (BM.p ⟨t8.1, t8.2.1, t8.2.2.1, fM1.trm t8.2.2.2⟩ (34 + F 3) 0)
      rw [t6, zbd_s, zck_t (zok_p (by omega) (by decide)), zlt_e, nI_clamp (by omega), zbr_f (by rw [zpi_ne _ _ (by omega), t8.1]; decide)]
  · have n1 : f_X8_passNewName 1 (4 : Int32) (nI (F 3)) σc = some (0, bl σc (nI f) (nI a)) := n1
    have n2 : f_X11_newName 0 (nI (6 + F 3)) σm = some ((), wr σm (nI f) (nI a)) := n2
    refine OC_bad (f := f) (y := nI a) f1 f2 ?_ ?_ (BC_w ad.c _ _) ((BM_w ad.m _ _).p (34 + F 3) 0)
    · rw [n1, zbd_s, zbr_t (c := (0 : Int32) = 0) rfl]; rfl
    · rw [n2, zbd_s, wr_2, mr16 hR, w4, zck_t (by decide), Mf_after (wr_13 _ _ _), zbd_s, wr_4, hS.r4 3 (by omega), px34, zck_t (zok_p (by omega) (by decide)), zlt_e, nI_clamp (by omega), zbr_f (by rw [zpi_ne _ _ (by omega), wr_13]; decide)]
theorem L_matter {a0 e0 kd0 : Nat} {σ0 ρ0 : zS} (h0 : SS b tp n F R N a0 e0 kd0 σ0 ρ0) (V : VV tp n F R N) (h9 : F 9 = 1) (nx : f_X9_next 2 σ0 = some ((), σc)) (ad : Adv b tp n F R N e0 σ0 ρ0 a e kd σc σm) (hb : F 4 < 4) : OC b tp n e0 σ0 ρ0 (f_X8_readMatter 1 σ0) (f_X11_matterLine 0 σm) := by
  obtain ⟨r10, r12, -, -, kL⟩ := h0.q
  have hS := ad.1
  obtain ⟨-, -, hR, h13, -⟩ := hS.q
  have hv := Ld_v b
  obtain ⟨v0, v1, v2, v3, v4, v6, v8⟩ := V.1.1
  have hb3 : F 1 ≤ 6 ∧ F 3 ≤ 4 ∧ F 4 ≤ 4 := ⟨v1, v3, v4⟩
  apply OC_c
  · unfold f_X8_readMatter
    rw [zck_t k1, r12, zck_t kL, zlt_e, h0.g.1.2.2.2.2.1, zbr_t (show nI (F 4) < (4 : Int32) from nI_lt (b := 4) hb (by decide)), r10, zck_t k2, nx, zbd_s]
  apply OC_m
  · unfold f_X11_matterLine
    rw [zck_t w0, zbr_t h13, mr16 hR, w4, zck_t (by decide), cl4, hS.r4 4 (by omega), px10']
  rcases P_newName hS V.2.2.1 hb3 (s := 5) (k := F 4) (Or.inr (Or.inr ⟨rfl, rfl, hb⟩)) with ⟨a1, e1, kd1, c1, m1, hn, n1, n2, S1, fc1, fm1, l1⟩ | ⟨f, f1, f2, n1, n2⟩
  · have n1 : f_X8_passNewName 1 (5 : Int32) (nI (F 4)) σc = some (1, c1) := n1
    have n2 : f_X11_newName 0 (nI (10 + F 4)) σm = some ((), m1) := n2
    have fC1 := ad.c.tr fc1
    have fM1 := ad.m.tr fm1
    obtain ⟨g10, g12, gR, g13, -⟩ := S1.q
    have hk := S1.2.2.k
    rw [n1, zbd_s, zbr_f z10, n2, zbd_s]
    have G1 : gA (Ld b) F (zpi c1 (Ld b + 6) (F 4) (-1)).1 := by
      have := S1.g.j (j := 9) (v := F 9) (a0 := Ld b + 6) (k0 := F 4) (i' := (zpi c1 (Ld b + 6) (F 4) (-1)).1) ⟨fun k hk => by omega, fun p hp => by omega, fun p hp => by omega, fun p hp => by omega, fun p hp => by omega, fun p hp => by omega, fun p hp => by omega⟩ ⟨fun l hl => by omega, by omega, fun p hp => by omega, fun p hp => by omega, fun p hp => by omega, fun p hp => by omega, fun p hp => by omega, fun p hp => by omega⟩ (fun x l z => zpi_ne _ _ z)
      rw [uF_s] at this
      exact this
    have S7 : SS b tp n (uF F 4 (F 4 + 1)) R (adN N (a, e - a, 5, F 4)) a1 e1 kd1 (zpi (zpi c1 (Ld b + 6) (F 4) (-1)) (Ld b) 13 (nI (F 4 + 1))) (zpi m1 4 4 (nI (F 4 + 1))) :=
      S1.u (((fr_r _ _).pi _ (by omega)).pi _ (by omega)) ((fr_r _ _).pi _ (by omega)) (G1.c4 (fun x l z => zpi_ne _ _ z) (zpi_eq _ _ _ _) (by rw [V.2.2.2.1 (F 4) (Nat.le_refl _) hb]; exact zpi_eq _ _ _ _)) (S1.p.f (fun x l _ _ => (zpi_ne _ _ (by omega)).trans (zpi_ne _ _ (by omega)))) (upR S1.r4 _ _) (fun l hl => (zpi_ne _ _ (by omega)).trans (S1.r6 l hl))
    refine Or.inl ⟨_, R, _, a1, e1, kd1, _, _, ?_, ?_, S7, V.matter hb upE (fun l z1 => upN z1) hn, (upN (by omega)).trans h9, fC1.tr (pc_d (((fr_r _ _).pi _ (by omega)).pi _ (by omega))), fM1.tr (pm_d ((fr_r _ _).pi _ (by omega))), ?_⟩
    · rw [g12, zck_t kL, hk.2.1.2.2.2.2.2.1, hk.2.2.1.2.2.2.2.2.1, zck_t (zok_p hb (by decide)), zlt_e, nI_clamp (by omega), zpi_2, g12, zck_t kL, G1.1.2.2.2.2.1, zlt_e, nI_1]; rfl
    · rw [zbr_t g13, mr16 gR, w4, zck_t (by decide), zck_t (by decide), S1.r4 4 (by omega), zlt_e, nI_1]
    · have := ad.2.2.2
      have := hS.2.1.1.1
      omega
  · have n1 : f_X8_passNewName 1 (5 : Int32) (nI (F 4)) σc = some (0, bl σc (nI f) (nI a)) := n1
    have n2 : f_X11_newName 0 (nI (10 + F 4)) σm = some ((), wr σm (nI f) (nI a)) := n2
    refine OC_bad (f := f) (y := nI a) f1 f2 ?_ ?_ (BC_w ad.c _ _) (BM_w ad.m _ _)
    · rw [n1, zbd_s, zbr_t (c := (0 : Int32) = 0) rfl]; rfl
    · rw [n2, zbd_s, zbr_f (by rw [wr_13]; decide)]
theorem P_pl (h : SS b tp n F R N a e kd σc σm) (hV : VN tp n F N) (hb : F 1 ≤ 6 ∧ F 3 ≤ 4 ∧ F 4 ≤ 4) :
    (∃ k a' e' kd' τc τm, k < F 1 ∧ f_X8_passName 1 (2 : Int32) σc = some (nI k, τc) ∧ f_X11_placePassed 0 σm = some (nI k, τm) ∧ Adv b tp n F R N e σc σm a' e' kd' τc τm) ∨ (∃ f, 1 ≤ f ∧ f ≤ 7 ∧ f_X8_passName 1 (2 : Int32) σc = some (-1, bl σc (nI f) (nI a)) ∧ f_X11_placePassed 0 σm = some (0, wr σm (nI f) (nI a))) := by
  rcases P_name h hV hb (s := 2) (Or.inl rfl) with ⟨k, a', e', kd', τc, τm, p1, p2, p3, p4, p5⟩ | ⟨f, f1, f2, p2, p3⟩
  · refine Or.inl ⟨k, a', e', kd', τc, τm, p1, p2, ?_, p5⟩
    have p3 : f_X11_named 0 (0 : Int32) (5 : Int32) σm = some (nI k, σm) := p3
    unfold f_X11_placePassed
    rw [zck_t w0, p3, zbd_s, zlt_e, p4, zbd_s]
  · refine Or.inr ⟨f, f1, f2, p2, ?_⟩
    have p3 : f_X11_named 0 (0 : Int32) (5 : Int32) σm = some (0, wr σm (nI f) (nI a)) := p3
    unfold f_X11_placePassed
    rw [zck_t w0, p3, zbd_s, zlt_e, Mf_pass (wr_13 _ _ _), zbd_s]
theorem P_hd (h : SS b tp n F R N a e kd σc σm) (hV : VN tp n F N) (hb : F 1 ≤ 6 ∧ F 3 ≤ 4 ∧ F 4 ≤ 4) :
    (∃ k a' e' kd' τc τm, k < F 3 ∧ f_X8_passName 1 (4 : Int32) σc = some (nI k, τc) ∧ f_X11_handPassed 0 σm = some (nI k, τm) ∧ Adv b tp n F R N e σc σm a' e' kd' τc τm) ∨ (∃ f, 1 ≤ f ∧ f ≤ 7 ∧ f_X8_passName 1 (4 : Int32) σc = some (-1, bl σc (nI f) (nI a)) ∧ f_X11_handPassed 0 σm = some (0, wr σm (nI f) (nI a))) := by
  rcases P_name h hV hb (s := 4) (Or.inr (Or.inl rfl)) with ⟨k, a', e', kd', τc, τm, p1, p2, p3, p4, p5⟩ | ⟨f, f1, f2, p2, p3⟩
  · refine Or.inl ⟨k, a', e', kd', τc, τm, p1, p2, ?_, p5⟩
    have p3 : f_X11_named 0 (6 : Int32) (9 : Int32) σm = some (nI k, σm) := p3
    unfold f_X11_handPassed
    rw [zck_t w0, p3, zbd_s, zlt_e, p4, zbd_s]
  · refine Or.inr ⟨f, f1, f2, p2, ?_⟩
    have p3 : f_X11_named 0 (6 : Int32) (9 : Int32) σm = some (0, wr σm (nI f) (nI a)) := p3
    unfold f_X11_handPassed
    rw [zck_t w0, p3, zbd_s, zlt_e, Mf_pass (wr_13 _ _ _), zbd_s]
theorem L_hidden {a0 e0 kd0 : Nat} {σ0 ρ0 : zS} (h0 : SS b tp n F R N a0 e0 kd0 σ0 ρ0) (V : VV tp n F R N) (h9 : F 9 = 1) (nx : f_X9_next 2 σ0 = some ((), σc)) (ad : Adv b tp n F R N e0 σ0 ρ0 a e kd σc σm) (hb : F 6 < 3) : OC b tp n e0 σ0 ρ0 (f_X8_readHidden 1 σ0) (f_X11_hiddenLine 0 σm) := by
  obtain ⟨r10, r12, -, -, kL⟩ := h0.q
  have hS := ad.1
  obtain ⟨-, -, hR, h13, -⟩ := hS.q
  have hv := Ld_v b
  obtain ⟨v0, v1, v2, v3, v4, v6, v8⟩ := V.1.1
  have hb3 : F 1 ≤ 6 ∧ F 3 ≤ 4 ∧ F 4 ≤ 4 := ⟨v1, v3, v4⟩
  apply OC_c
  · unfold f_X8_readHidden
    rw [zck_t k1, r12, zck_t kL, zlt_e, h0.g.1.2.2.2.2.2.1, zbr_t (show nI (F 6) < (3 : Int32) from nI_lt (b := 3) hb (by decide)), r10, zck_t k2, nx, zbd_s]
  apply OC_m
  · unfold f_X11_hiddenLine
    rw [zck_t w0, zbr_t h13]
  rcases P_pl hS V.2.2.1 hb3 with ⟨p, a1, e1, kd1, c1, m1, p0, p1, p2, p3⟩ | ⟨f, f1, f2, p1, p2⟩
  · have S1 := p3.1
    have fC1 := ad.c.tr p3.c
    have fM1 := ad.m.tr p3.m
    obtain ⟨g10, g12, gR, g13, -⟩ := S1.q
    have hk := S1.2.2.k
    rw [p2, zbd_s, zlt_e, p1, zbd_s, zlt_e, zbr_f (nI_m1 (by omega))]
    have S6 : SS b tp n (uF F (38 + F 6) p) R N a1 e1 kd1 (zpi c1 (Ld b + 7) (F 6) (nI p)) (zpi m1 4 (38 + F 6) (nI p)) :=
      S1.u ((fr_r _ _).pi _ (by omega)) ((fr_r _ _).pi _ (by omega)) (S1.g.j (a0 := Ld b + 7) (k0 := F 6) ⟨fun k hk => by omega, fun p hp => by omega, fun p hp => by omega, fun p hp => by omega, fun p hp => by omega, fun p hp => by omega, fun p hp => by omega⟩ ⟨fun l hl => by omega, by omega, fun p hp => by omega, fun p hp => by omega, fun p hp => by omega, fun p hp => by omega, fun p hp => by omega, fun p hp => by omega⟩ (fun x l z => zpi_ne _ _ z)) (S1.p.f (fun x l _ _ => zpi_ne _ _ (by omega))) (upR S1.r4 _ _) (fun l hl => (zpi_ne _ _ (by omega)).trans (S1.r6 l hl))
    have F2 : uF F (38 + F 6) p 6 = F 6 := upN (by omega)
    have F3 : uF F (38 + F 6) p (38 + F 6) = p := upE
    have S7 : SS b tp n (uF (uF F (38 + F 6) p) 6 (uF F (38 + F 6) p 6 + 1)) R N a1 e1 kd1 (zpi (zpi c1 (Ld b + 7) (F 6) (nI p)) (Ld b) 14 (nI (uF F (38 + F 6) p 6 + 1))) (zpi (zpi m1 4 (38 + F 6) (nI p)) 4 6 (nI (uF F (38 + F 6) p 6 + 1))) :=
      S6.u ((fr_r _ _).pi _ (by omega)) ((fr_r _ _).pi _ (by omega)) (S6.g.c6 (fun x l z => zpi_ne _ _ z) (zpi_eq _ _ _ _) (by rw [F2, F3]; exact zpi_eq _ _ _ _)) (S6.p.f (fun x l _ _ => zpi_ne _ _ (by omega))) (upR S6.r4 _ _) (fun l hl => (zpi_ne _ _ (by omega)).trans (S6.r6 l hl))
    refine Or.inl ⟨_, R, _, a1, e1, kd1, _, _, ?_, ?_, S7, V.hidden (v := p) hb ?_ ?_ (fun l z1 z2 => ?_) p0, ?_, ?_, ?_, ?_⟩
    · rw [g12, zck_t kL, hk.2.1.2.2.2.2.2.2.1, hk.2.2.1.2.2.2.2.2.2, zck_t (zok_p hb (by decide)), zlt_e, nI_clamp (by omega), zpi_2, g12, zck_t kL, S6.g.1.2.2.2.2.2.1, zlt_e, nI_1]; rfl
    · rw [zbr_t g13, mr16 gR, w4, zck_t (by decide), cl6, S1.r4 6 (by omega), px38, zck_t (zok_p (by omega) (by decide)), zlt_e, nI_clamp (by omega), zpi_2, mr16 gR, w4, zck_t (by decide), zck_t (by decide), S6.r4 6 (by omega), zlt_e, nI_1]
    · rw [upE, F2]
    · rw [upN (by omega), F3]
    · rw [upN z1, upN z2]
    · rw [upN (by omega), upN (by omega), h9]
    · exact fC1.tr ((pc_d ((fr_r (fun x _ => Ld b ≤ x ∧ x ≤ Ld b + 18) c1).pi (a := Ld b + 7) (k := F 6) (nI p) (by omega))).tr (pc_d ((fr_r _ _).pi _ (by omega))))
    · exact fM1.tr ((pm_d ((fr_r (fun x k => x = 6 ∨ (x = 4 ∧ k < 69)) m1).pi (a := 4) (k := 38 + F 6) (nI p) (by omega))).tr (pm_d ((fr_r _ _).pi _ (by omega))))
    · have := ad.2.2.2
      have := hS.2.1.1.1
      have := p3.2.2.2
      omega
  · refine OC_bad (f := f) (y := nI a) f1 f2 ?_ ?_ (BC_w ad.c _ _) (BM_w ad.m _ _)
    · rw [p1, zbd_s, zlt_e, zbr_t (c := (-1 : Int32) = -1) rfl]; rfl
    · rw [p2, zbd_s, zlt_e, zbr_f (by rw [wr_13]; decide)]
end LB2
