/-! lines: wrote and bid -/
section GW
variable {c : Nat} {F : Nat → Nat} {i i' : Nat → Nat → Int32}
theorem gA.w (h : gA c F i) {v : Nat} (hb : F 1 ≤ 6 ∧ F 2 ≤ 6 ∧ F 3 ≤ 4 ∧ F 4 ≤ 4) (e : ∀ a k, a < c + 8 ∨ c + 13 < a → i' a k = i a k) : gA c (uF F 5 v) i' := by
  obtain ⟨⟨h1, h2, h3, h4, h5, h6, h7, h8⟩, g1, g2, g3, g4, g5, g6⟩ := h
  refine ⟨⟨?_, ?_, ?_, ?_, ?_, ?_, ?_, ?_⟩, fun p hp => ⟨?_, ?_⟩, fun p hp => ⟨?_, ?_⟩, fun p hp => ?_, fun p hp => ?_, fun p hp => ?_, fun p hp => ⟨?_, ?_, ?_, ?_⟩⟩
  · rw [upN (by omega), e _ _ (by omega)]; exact h1
  · rw [upN (by omega), e _ _ (by omega)]; exact h2
  · rw [upN (by omega), e _ _ (by omega)]; exact h3
  · rw [upN (by omega), e _ _ (by omega)]; exact h4
  · rw [upN (by omega), e _ _ (by omega)]; exact h5
  · rw [upN (by omega), e _ _ (by omega)]; exact h6
  · rw [upN (by omega), e _ _ (by omega)]; exact h7
  · rw [upN (by omega), e _ _ (by omega)]; exact h8
  · rw [upN (by omega)] at hp
    rw [upN (by omega), e _ _ (by omega)]; exact (g1 p hp).1
  · rw [upN (by omega)] at hp
    rw [upN (by omega), e _ _ (by omega)]; exact (g1 p hp).2
  · rw [upN (by omega)] at hp
    rw [upN (by omega), e _ _ (by omega)]; exact (g2 p hp).1
  · rw [upN (by omega)] at hp
    rw [upN (by omega), e _ _ (by omega)]; exact (g2 p hp).2
  · rw [upN (by omega)] at hp
    rw [upN (by omega), e _ _ (by omega)]; exact (g3 p hp)
  · rw [upN (by omega)] at hp
    rw [upN (by omega), e _ _ (by omega)]; exact (g4 p hp)
  · rw [upN (by omega)] at hp
    rw [upN (by omega), e _ _ (by omega)]; exact (g5 p hp)
  · rw [upN (by omega)] at hp
    rw [upN (by omega), e _ _ (by omega)]; exact (g6 p hp).1
  · rw [upN (by omega)] at hp
    rw [upN (by omega), e _ _ (by omega)]; exact (g6 p hp).2.1
  · rw [upN (by omega)] at hp
    rw [upN (by omega), e _ _ (by omega)]; exact (g6 p hp).2.2.1
  · rw [upN (by omega)] at hp
    rw [upN (by omega), e _ _ (by omega)]; exact (g6 p hp).2.2.2
end GW
section LE2
variable {b : Bool} {tp F R : Nat → Nat} {n a e kd : Nat} {N : nT} {σc σm : zS}
theorem Mf_88 {τ : zS} (h13 : τ.1 0 13 = 1) (x1 x2 x3 x4 x5 : Int32) : f_X11_wroteLine_88 0 x1 x2 x3 x4 x5 τ = some ((), τ) := by
  unfold f_X11_wroteLine_88
  rw [Mf_pass h13, zbd_s, zbr_f (by rw [h13]; decide)]
theorem L_wrote {a0 e0 kd0 : Nat} {σ0 ρ0 : zS} (h0 : SS b tp n F R N a0 e0 kd0 σ0 ρ0) (V : VV tp n F R N) (h9 : F 9 = 1) (nx : f_X9_next 2 σ0 = some ((), σc)) (ad : Adv b tp n F R N e0 σ0 ρ0 a e kd σc σm) (hb : R 48 < 8) : OC b tp n e0 σ0 ρ0 (f_X8_readWrote 1 σ0) (f_X11_wroteLine 0 σm) := by
  obtain ⟨r10, r12, -, -, kL⟩ := h0.q
  have hS := ad.1
  obtain ⟨-, -, hR, h13, -⟩ := hS.q
  have hv := Ld_v b
  obtain ⟨v0, v1, v2, v3, v4, v6, v8⟩ := V.1.1
  have hb3 : F 1 ≤ 6 ∧ F 3 ≤ 4 ∧ F 4 ≤ 4 := ⟨v1, v3, v4⟩
  have hk0 := h0.2.2.k
  have cm1 : ∀ h σ, f_X8_readWrote_48 1 h (-1) σ = some (0, σ) := by
    intro h σ
    unfold f_X8_readWrote_48 f_X8_readWrote_63
    rw [zlt_e, zbr_t m11, zlt_e, zbr_t m11]; rfl
  have cm2 : ∀ h p σ, f_X8_readWrote_63 1 h p (-1) σ = some (0, σ) := by
    intro h p σ
    unfold f_X8_readWrote_63
    rw [zlt_e, zbr_t m11]; rfl
  apply OC_c
  · unfold f_X8_readWrote
    rw [zck_t k1, r12, zck_t kL, hk0.2.1.2.2.2.2.2.2.2.1, zck_t hk0.2.2.2.2.2.2.1, h0.p.1, zbr_t (show nI (R 48) < (8 : Int32) from nI_lt (b := 8) hb (by decide)), r10, zck_t k2, nx, zbd_s]
  apply OC_m
  · unfold f_X11_wroteLine
    rw [zck_t w0, zbr_t h13]
  rcases P_hd hS V.2.2.1 hb3 with ⟨h, a1, e1, kd1, c1, m1, p0, p1, p2, p3⟩ | ⟨f, f1, f2, p1, p2⟩
  · have S1 := p3.1
    have fC1 := ad.c.tr p3.c
    have fM1 := ad.m.tr p3.m
    rw [p2, zbd_s, zlt_e, p1, zbd_s, zlt_e, zbr_f (nI_m1 (by omega))]
    rcases P_pl S1 V.2.2.1 hb3 with ⟨p, a2, e2, kd2, c2, m2, q0, q1, q2, q3⟩ | ⟨f, f1, f2, q1, q2⟩
    · have S2 := q3.1
      have fC2 := fC1.tr q3.c
      have fM2 := fM1.tr q3.m
      rw [q2, zbd_s, zlt_e, q1, zbd_s]
      unfold f_X8_readWrote_48
      rw [zlt_e, zbr_f (nI_m1 (by omega))]
      rcases P_name S2 V.2.2.1 hb3 (s := 5) (Or.inr (Or.inr rfl)) with ⟨m, a3, e3, kd3, c3, m3, s0, s1, s2, s3, s4⟩ | ⟨f, f1, f2, s1, s2⟩
      · have s0 : m < F 4 := s0
        have s1 : f_X8_passName 1 (5 : Int32) c2 = some (nI m, c3) := s1
        have s2 : f_X11_named 0 (10 : Int32) (13 : Int32) m2 = some (nI m, m2) := s2
        have S3 := s4.1
        have fC3 := fC2.tr s4.c
        have fM3 := fM2.tr s4.m
        rw [s2, zbd_s, zlt_e, s3, zbd_s, s1, zbd_s]
        unfold f_X8_readWrote_63
        rw [zlt_e, zbr_f (nI_m1 (by omega))]
        rcases P_say S3 with ⟨s, a4, e4, kd4, c4, m4, t0, t1, t2, t3, t4⟩ | ⟨t1, t3⟩
        · have S4 := t4.1
          have fC4 := fC3.tr t4.c
          have fM4 := fM3.tr t4.m
          rw [t3, zbd_s, zlt_e, t1, zbd_s, zlt_e, zbr_f (nI_m1 (by omega)), S3.q.1, zck_t k2, t2, zbd_s]
          rcases P_word S4 (j := 15) (by decide) with ⟨-, a5, e5, kd5, c5, m5, x1, x2, x3⟩ | ⟨x1, x2⟩
          · have S5 := x3.1
            have fC5 := fC4.tr x3.c
            have fM5 := fM4.tr x3.m
            obtain ⟨i10, i12, iR, i13, -⟩ := S5.q
            have hk := S5.2.2.k
            rw [x2, zbd_s, x1, zbd_s, zbr_f z10]
            rcases P_whole S5 (lo := 1) (hi := 9) (by decide) (by decide) with ⟨w, -, y1, y2, y3, y4, y5, y6⟩ | ⟨f, f1, f2, y4, y6⟩
            · have y4 : f_X8_isWhole 1 (1 : Int32) (9 : Int32) c5 = some (1, c5) := y4
              have y6 : f_X11_numberHere 0 (1 : Int32) (9 : Int32) m5 = some (nI w, m5) := y6
              have hP := V.2.1
              have hl : ∀ k, k < R 48 → R (6 * k + 1) < 6 := fun k hk => by have := (hP.1.2.2 k hk).2.1; omega
              have hu := hP.2 p q0
              have pcR : pC (Ld b + 8) R c5 := ⟨hk.2.2.2.2.2.2, S5.p⟩
              have ci := C_inchesAt pcR (by omega) (fun k hk => by have := hl k hk; omega) (p := p) (by omega)
              have ci : f_X6_inchesAt (Ld b + 8) (nI p) c5 = some (nI (used R p (R 48)), c5) := ci
              have mr := M_roomOn (A := F) (C := R) (rf := 4) (rr := 6) (σ := m5) ⟨Or.inr rfl, S5.r4⟩ ⟨Or.inr (Or.inl rfl), S5.r6⟩ (by omega) hl (p := p) (by omega) hu
              rw [y6, zbd_s, zlt_e, zbr_t i13, mr16 iR, mr18 iR, mr, zbd_s, y4, zbd_s, zbr_f z10, i10, zck_t k2, i12, zck_t kL, hk.2.1.2.1, hk.2.2.1.2.1, zck_t (zok_p (by omega) (by decide)), hk.2.1.2.2.2.2.2.2.2.1, zck_t hk.2.2.2.2.2.2.1, ci, zbd_s, y5, nI_clamp (by omega), (S5.g.2.1 p q0).2, nI_sub hu]
              by_cases hw : w ≤ F (11 + 2 * p) - used R p (R 48)
              · have h9' := (V.1.2.1 p q0).2.2
                rw [zbr_t (nI_le hw (by omega)), zbr_t (nI_le hw (by omega)), i12, zck_t kL]
                obtain ⟨a6, e6, kd6, c6, m6, u1, u2, u3⟩ := P_num S5 y5
                have S6 := u3.1
                have fC6 := fC5.tr u3.c
                have fM6 := fM5.tr u3.m
                obtain ⟨j10, j12, jR, j13, -⟩ := S6.q
                have hk6 := S6.2.2.k
                obtain ⟨⟨⟩, c7, ec, fc7, gc7⟩ := C_add (c := Ld b + 8) (σ := c6) (B := R) ⟨hk6.2.2.2.2.2.2, S6.p⟩ hb h p m s w
                obtain ⟨⟨⟩, m7, em, fm7, gm7⟩ := M_lay (r := 6) (σ := m6) (B := R) ⟨w6, S6.r6⟩ hb h p m s w
                have r47 : ∀ k, k < 69 → m7.1 4 k = nI (F k) := fun k hk => (fm7.2 4 k (by omega)).trans (S6.r4 k hk)
                have S8 : SS b tp n (uF F 5 (F 5 + 1)) (layB R h p m s w) N a6 e6 kd6 c7 (zpi m7 4 5 (nI (F 5 + 1))) :=
                  S6.u (fc7.mo (fun x l z => by omega)) ((fm7.mo (fun x l z => by omega)).pi _ (by omega)) (S6.g.w ⟨v1, v2, v3, v4⟩ (fun x l z => fc7.2 x l (by omega))) gc7 (upR r47 _ _) (fun l hl => (zpi_ne _ _ (by omega)).trans (gm7 l hl))
                refine Or.inl ⟨_, _, _, a6, e6, kd6, _, _, ?_, ?_, S8, V.wrote hb p0 q0 s0 t0 ⟨y1, y2⟩ hw, (upN (by omega)).trans h9, fC6.tr (fc7.mo (fun x l z => by unfold PCd; omega)), fM6.tr ((fm7.mo (fun x l z => by unfold PMd; omega)).pi _ (by unfold PMd; omega)), ?_⟩
                · rw [u1, zbd_s, hk.2.1.2.2.2.2.2.2.2.1, zck_t hk.2.2.2.2.2.2.1, ec, zbd_s]; rfl
                · unfold f_X11_wroteLine_88
                  rw [u2, zbd_s, zbr_t j13, mr18 jR, em, zbd_s, fm7.1, mr16 jR, w4, zck_t (by decide), zck_t (by decide), cl5, r47 5 (by omega), zlt_e, nI_1]
                · have := ad.2.2.2
                  have := hS.2.1.1.1
                  have := p3.2.2.2
                  have := S1.2.1.1.1
                  have := q3.2.2.2
                  have := S2.2.1.1.1
                  have := s4.2.2.2
                  have := S3.2.1.1.1
                  have := t4.2.2.2
                  have := S4.2.1.1.1
                  have := x3.2.2.2
                  have := S5.2.1.1.1
                  have := u3.2.2.2
                  omega
              · refine OC_bad (f := 7) (y := nI a5) (by omega) (by omega) ?_ ?_ (BC_w fC5 _ _) (BM_w fM5 _ _)
                · rw [zbr_f (nI_ge (by omega) (by omega)), C_blame S5.2.1 i10, zbd_s]; rfl
                · rw [zbr_f (nI_ge (by omega) (by omega)), S5.2.1.2.2.1.1, M_wrong i13, zbd_s]
                  exact Mf_88 (wr_13 _ _ _) _ _ _ _ _
            · have y4 : f_X8_isWhole 1 (1 : Int32) (9 : Int32) c5 = some (0, bl c5 (nI f) (nI a5)) := y4
              have y6 : f_X11_numberHere 0 (1 : Int32) (9 : Int32) m5 = some (1, wr m5 (nI f) (nI a5)) := y6
              refine OC_bad (f := f) (y := nI a5) f1 f2 ?_ ?_ (BC_w fC5 _ _) (BM_w fM5 _ _)
              · rw [y4, zbd_s, zbr_t (c := (0 : Int32) = 0) rfl]; rfl
              · rw [y6, zbd_s, zlt_e, zbr_f (by rw [wr_13]; decide)]
                exact Mf_88 (wr_13 _ _ _) _ _ _ _ _
          · refine OC_bad (f := 1) (y := nI a4) (by omega) (by omega) ?_ ?_ (BC_w fC4 _ _) (BM_w fM4 _ _)
            · rw [x1, zbd_s, zbr_t (c := (0 : Int32) = 0) rfl]; rfl
            · rw [x2, zbd_s, Mf_numberHere (wr_13 _ _ _), zbd_s, zlt_e, zbr_f (by rw [wr_13]; decide)]
              exact Mf_88 (wr_13 _ _ _) _ _ _ _ _
        · refine OC_bad (f := 1) (y := nI a3) (by omega) (by omega) ?_ ?_ (BC_w fC3 _ _) (BM_w fM3 _ _)
          · rw [t1, zbd_s, zlt_e, zbr_t m11, C_blame S3.2.1 S3.q.1, zbd_s]; rfl
          · rw [t3, zbd_s, zlt_e, Mf_must (wr_13 _ _ _), zbd_s, Mf_numberHere (wr_13 _ _ _), zbd_s, zlt_e, zbr_f (by rw [wr_13]; decide)]
            exact Mf_88 (wr_13 _ _ _) _ _ _ _ _
      · have s1 : f_X8_passName 1 (5 : Int32) c2 = some (-1, bl c2 (nI f) (nI a2)) := s1
        have s2 : f_X11_named 0 (10 : Int32) (13 : Int32) m2 = some (0, wr m2 (nI f) (nI a2)) := s2
        refine OC_bad (f := f) (y := nI a2) f1 f2 ?_ ?_ (BC_w fC2 _ _) (BM_w fM2 _ _)
        · rw [s1, zbd_s, cm2]
        · rw [s2, zbd_s, zlt_e, Mf_pass (wr_13 _ _ _), zbd_s, Mf_say (wr_13 _ _ _), zbd_s, zlt_e, Mf_must (wr_13 _ _ _), zbd_s, Mf_numberHere (wr_13 _ _ _), zbd_s, zlt_e, zbr_f (by rw [wr_13]; decide)]
          exact Mf_88 (wr_13 _ _ _) _ _ _ _ _
    · refine OC_bad (f := f) (y := nI a1) f1 f2 ?_ ?_ (BC_w fC1 _ _) (BM_w fM1 _ _)
      · rw [q1, zbd_s, cm1]
      · rw [q2, zbd_s, zlt_e, Mf_named (wr_13 _ _ _), zbd_s, zlt_e, Mf_pass (wr_13 _ _ _), zbd_s, Mf_say (wr_13 _ _ _), zbd_s, zlt_e, Mf_must (wr_13 _ _ _), zbd_s, Mf_numberHere (wr_13 _ _ _), zbd_s, zlt_e, zbr_f (by rw [wr_13]; decide)]
        exact Mf_88 (wr_13 _ _ _) _ _ _ _ _
  · refine OC_bad (f := f) (y := nI a) f1 f2 ?_ ?_ (BC_w ad.c _ _) (BM_w ad.m _ _)
    · rw [p1, zbd_s, zlt_e, zbr_t m11, cm1]
    · rw [p2, zbd_s, zlt_e, Mf_placePassed (wr_13 _ _ _), zbd_s, zlt_e, Mf_named (wr_13 _ _ _), zbd_s, zlt_e, Mf_pass (wr_13 _ _ _), zbd_s, Mf_say (wr_13 _ _ _), zbd_s, zlt_e, Mf_must (wr_13 _ _ _), zbd_s, Mf_numberHere (wr_13 _ _ _), zbd_s, zlt_e, zbr_f (by rw [wr_13]; decide)]
      exact Mf_88 (wr_13 _ _ _) _ _ _ _ _
end LE2
