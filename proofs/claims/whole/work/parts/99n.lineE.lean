/-! lines: bids -/
section LF2
variable {b : Bool} {tp F R : Nat → Nat} {n a e kd : Nat} {N : nT} {σc σm : zS}
theorem jk_u {i j v : Nat} (h : jk F j) (hi : 9 ≤ i) : jk (uF F i v) j := by
  unfold jk at h ⊢
  rw [upN (show 1 ≠ i by omega), upN (show 2 ≠ i by omega), upN (show 3 ≠ i by omega), upN (show 4 ≠ i by omega), upN (show 6 ≠ i by omega), upN (show 8 ≠ i by omega)]
  exact h
theorem SS.jr (h : SS b tp n F R N a e kd σc σm) {j : Nat} (hj : jk F j) (h69 : j < 69) (v : Nat) : SS b tp n (uF F j v) R N a e kd σc (zpi σm 4 j (nI v)) :=
  h.u (fr_r _ _) ((fr_r _ _).pi _ (by omega)) (h.g.j (a0 := 0) (k0 := 0) hj (jc_0 b F) (fun _ _ _ => rfl)) h.p (upR h.r4 _ _) (fun l hl => (zpi_ne _ _ (by omega)).trans (h.r6 l hl))
theorem p13 {τ : zS} {k : Nat} {v : Int32} (h : τ.1 0 13 = 1) : (zpi τ 4 k v).1 0 13 = 1 := (zpi_ne _ _ (by omega)).trans h
theorem px45 (k : Nat) : (45 : Int32) + (4 : Int32) * nI k = nI (45 + 4 * k) := by show nI 45 + nI 4 * nI k = _; rw [nI_mul, nI_add]
theorem pk2 (k : Nat) : nI k + (2 : Int32) = nI (k + 2) := by show nI k + nI 2 = _; rw [nI_add]
theorem pk3 (k : Nat) : nI k + (3 : Int32) = nI (k + 3) := by show nI k + nI 3 = _; rw [nI_add]
theorem L_bid {a0 e0 kd0 : Nat} {σ0 ρ0 : zS} (h0 : SS b tp n F R N a0 e0 kd0 σ0 ρ0) (V : VV tp n F R N) (h9 : F 9 = 1) (nx : f_X9_next 2 σ0 = some ((), σc)) (ad : Adv b tp n F R N e0 σ0 ρ0 a e kd σc σm) (hb : F 8 < 6) : OC b tp n e0 σ0 ρ0 (f_X8_readBid 1 σ0) (f_X11_bidLine 0 σm) := by
  obtain ⟨r10, r12, -, -, kL⟩ := h0.q
  have hS := ad.1
  obtain ⟨-, -, hR, h13, -⟩ := hS.q
  have hv := Ld_v b
  obtain ⟨v0, v1, v2, v3, v4, v6, v8⟩ := V.1.1
  have hb3 : F 1 ≤ 6 ∧ F 3 ≤ 4 ∧ F 4 ≤ 4 := ⟨v1, v3, v4⟩
  have hk0 := h0.2.2.k
  have cm1 : ∀ h σ, f_X8_readBid_48 1 h (-1) σ = some (0, σ) := by
    intro h σ
    unfold f_X8_readBid_48
    rw [zlt_e, zbr_t m11]; rfl
  have J : ∀ i, i < 4 → jk F (45 + 4 * F 8 + i) := fun i hi => ⟨fun k hk => by omega, fun p hp => by omega, fun p hp => by omega, fun p hp => by omega, fun p hp => by omega, fun p hp => by omega, fun p hp => by omega⟩
  have J0 : jk F (45 + 4 * F 8) := J 0 (by omega)
  have J1 : jk F (46 + 4 * F 8) := by have := J 1 (by omega); rw [show 45 + 4 * F 8 + 1 = 46 + 4 * F 8 by omega] at this; exact this
  have J2 : jk F (47 + 4 * F 8) := by have := J 2 (by omega); rw [show 45 + 4 * F 8 + 2 = 47 + 4 * F 8 by omega] at this; exact this
  have J3 : jk F (48 + 4 * F 8) := by have := J 3 (by omega); rw [show 45 + 4 * F 8 + 3 = 48 + 4 * F 8 by omega] at this; exact this
  apply OC_c
  · unfold f_X8_readBid
    rw [zck_t k1, r12, zck_t kL, hk0.2.1.2.2.2.2.2.2.2.2, zck_t hk0.2.2.2.1, h0.g.1.2.2.2.2.2.2.2, zbr_t (show nI (F 8) < (6 : Int32) from nI_lt (b := 6) hb (by decide)), r10, zck_t k2, nx, zbd_s]
  apply OC_m
  · unfold f_X11_bidLine
    rw [zck_t w0, zbr_t h13, mr16 hR, w4, zck_t (by decide), cl8, hS.r4 8 (by omega), px45, zlt_e, nI_1, pk2, pk3, show 45 + 4 * F 8 + 1 = 46 + 4 * F 8 by omega, show 45 + 4 * F 8 + 2 = 47 + 4 * F 8 by omega, show 45 + 4 * F 8 + 3 = 48 + 4 * F 8 by omega, nI_clamp (n := 45 + 4 * F 8) (by omega), nI_clamp (n := 46 + 4 * F 8) (by omega), nI_clamp (n := 47 + 4 * F 8) (by omega), nI_clamp (n := 48 + 4 * F 8) (by omega)]
  rcases P_hd hS V.2.2.1 hb3 with ⟨h, a1, e1, kd1, c1, m1, p0, p1, p2, p3⟩ | ⟨f, f1, f2, p1, p2⟩
  · have S1 := p3.1.jr J0 (by omega) h
    have fC1 := ad.c.tr p3.c
    have fM1 : fr PMd ρ0 (zpi m1 4 (45 + 4 * F 8) (nI h)) := (ad.m.tr p3.m).pi _ (by unfold PMd; omega)
    have R1 := p3.1.q.2.2.1
    rw [p2, zbd_s, zck_t (zok_p (by omega) (by decide)), zlt_e, zpi_2, mr16 R1, w4, p1, zbd_s, zlt_e, zbr_f (nI_m1 (by omega))]
    rcases P_pl S1 (V.2.2.1.s (upN (by omega)) (upN (by omega)) (upN (by omega))) (by rw [upN (by omega), upN (by omega), upN (by omega)]; exact hb3) with ⟨p, a2, e2, kd2, c2, m2, q0, q1, q2, q3⟩ | ⟨f, f1, f2, q1, q2⟩
    · rw [upN (by omega)] at q0
      have S2 := q3.1.jr (jk_u J1 (by omega)) (by omega) p
      have fC2 := fC1.tr q3.c
      have fM2 : fr PMd ρ0 (zpi m2 4 (46 + 4 * F 8) (nI p)) := (fM1.tr q3.m).pi _ (by unfold PMd; omega)
      have R2 := q3.1.q.2.2.1
      rw [q2, zbd_s, zck_t (zok_p (by omega) (by decide)), zlt_e, zpi_2, mr16 R2, w4, q1, zbd_s]
      unfold f_X8_readBid_48
      rw [zlt_e, zbr_f (nI_m1 (by omega))]
      rcases P_after S2 (j := 15) (lo := 1) (hi := 9) (by decide) (by decide) (by decide) with ⟨w, a3, e3, kd3, υ, c3, m3, t1, t2, t3, t4, t5, t6, t7⟩ | ⟨f, y, c3, m3, f1, f2, t3, t6, t7, t8⟩
      · refine OC_c (t3 _) ?_
        have t6 : f_X11_after 0 (1000 + 15) (1 : Int32) (9 : Int32) (zpi m2 4 (46 + 4 * F 8) (nI p)) = some (nI w, m3) := t6
        have S3 := t7.1.jr (jk_u (jk_u J2 (by omega)) (by omega)) (by omega) w
        have fC3 := fC2.tr t7.c
        have fM3 : fr PMd ρ0 (zpi m3 4 (47 + 4 * F 8) (nI w)) := (fM2.tr t7.m).pi _ (by unfold PMd; omega)
        have R3 := t7.1.q.2.2.1
        rw [t6, zbd_s, zck_t (zok_p (by omega) (by decide)), zlt_e, zpi_2, mr16 R3, w4, t4, zbd_s, zlt_e]
        rcases P_after S3 (j := 17) (lo := 0) (hi := 99) (by decide) (by decide) (by decide) with ⟨v, a4, e4, kd4, υ2, c4, m4, s1, s2, s3, s4, s5, s6, s7⟩ | ⟨f, y, c4, m4, f1, f2, s3, s6, s7, s8⟩
        · refine OC_c (s3 _) ?_
          have s6 : f_X11_after 0 (1000 + 17) (0 : Int32) (99 : Int32) (zpi m3 4 (47 + 4 * F 8) (nI w)) = some (nI v, m4) := s6
          have S4 := s7.1.jr (jk_u (jk_u (jk_u J3 (by omega)) (by omega)) (by omega)) (by omega) v
          have fC4 := fC3.tr s7.c
          have fM4 : fr PMd ρ0 (zpi m4 4 (48 + 4 * F 8) (nI v)) := (fM3.tr s7.m).pi _ (by unfold PMd; omega)
          obtain ⟨i10, i12, iR, i13, -⟩ := S4.q
          have hk := S4.2.2.k
          have G : (uF (uF (uF (uF F (45 + 4 * F 8) h) (46 + 4 * F 8) p) (47 + 4 * F 8) w) (48 + 4 * F 8) v) 8 = F 8 := by rw [upN (by omega), upN (by omega), upN (by omega), upN (by omega)]
          have G0 : (uF (uF (uF (uF F (45 + 4 * F 8) h) (46 + 4 * F 8) p) (47 + 4 * F 8) w) (48 + 4 * F 8) v) (45 + 4 * F 8) = h := by rw [upN (by omega), upN (by omega), upN (by omega), upE]
          have G1 : (uF (uF (uF (uF F (45 + 4 * F 8) h) (46 + 4 * F 8) p) (47 + 4 * F 8) w) (48 + 4 * F 8) v) (46 + 4 * F 8) = p := by rw [upN (by omega), upN (by omega), upE]
          have G2 : (uF (uF (uF (uF F (45 + 4 * F 8) h) (46 + 4 * F 8) p) (47 + 4 * F 8) w) (48 + 4 * F 8) v) (47 + 4 * F 8) = w := by rw [upN (by omega), upE]
          have G3 : (uF (uF (uF (uF F (45 + 4 * F 8) h) (46 + 4 * F 8) p) (47 + 4 * F 8) w) (48 + 4 * F 8) v) (48 + 4 * F 8) = v := upE
          obtain ⟨X, hX⟩ : ∃ X, (uF (uF (uF (uF F (45 + 4 * F 8) h) (46 + 4 * F 8) p) (47 + 4 * F 8) w) (48 + 4 * F 8) v) = X := ⟨_, rfl⟩
          have eX : ∀ k, k ≠ 8 → k < 45 + 4 * F 8 ∨ 48 + 4 * F 8 < k → X k = F k := fun k z1 z2 => by rw [← hX, upN (by omega), upN (by omega), upN (by omega), upN (by omega)]
          rw [hX] at S4 G G0 G1 G2 G3
          have g8 : c4.1 (Ld b + 14) 4 = nI (F 8) := by have := S4.g.1.2.2.2.2.2.2.2; rw [G] at this; exact this
          have eA : f_X0_add (Ld b + 14) (nI h) (nI p) (nI w) (nI v) c4 = some ((), zpi (zpi (zpi (zpi (zpi c4 (Ld b + 15) (F 8) (nI h)) (Ld b + 16) (F 8) (nI p)) (Ld b + 17) (F 8) (nI w)) (Ld b + 18) (F 8) (nI v)) (Ld b + 14) 4 (nI (F 8 + 1))) := by
            unfold f_X0_add
            rw [zck_t hk.2.2.2.1, g8, zbr_t (show nI (F 8) < (6 : Int32) from nI_lt (b := 6) hb (by decide)), hk.2.2.2.2.1.1, hk.2.2.2.2.2.1.1, zck_t (zok_p hb (by decide)), zlt_e, nI_clamp (by omega)]
            rw [zpi_2, hk.2.2.2.2.1.2.1, hk.2.2.2.2.2.1.2.1, zpi_ne _ _ (show ¬ (Ld b + 14 = Ld b + 15 ∧ 4 = F 8) by omega), g8, zck_t (zok_p hb (by decide)), zlt_e, nI_clamp (by omega)]
            rw [zpi_2, zpi_2, hk.2.2.2.2.1.2.2.1, hk.2.2.2.2.2.1.2.2.1, zpi_ne _ _ (show ¬ (Ld b + 14 = Ld b + 16 ∧ 4 = F 8) by omega), zpi_ne _ _ (show ¬ (Ld b + 14 = Ld b + 15 ∧ 4 = F 8) by omega), g8, zck_t (zok_p hb (by decide)), zlt_e, nI_clamp (by omega)]
            rw [zpi_2, zpi_2, zpi_2, hk.2.2.2.2.1.2.2.2, hk.2.2.2.2.2.1.2.2.2, zpi_ne _ _ (show ¬ (Ld b + 14 = Ld b + 17 ∧ 4 = F 8) by omega), zpi_ne _ _ (show ¬ (Ld b + 14 = Ld b + 16 ∧ 4 = F 8) by omega), zpi_ne _ _ (show ¬ (Ld b + 14 = Ld b + 15 ∧ 4 = F 8) by omega), g8, zck_t (zok_p hb (by decide)), zlt_e, nI_clamp (by omega)]
            rw [zpi_ne _ _ (show ¬ (Ld b + 14 = Ld b + 18 ∧ 4 = F 8) by omega), zpi_ne _ _ (show ¬ (Ld b + 14 = Ld b + 17 ∧ 4 = F 8) by omega), zpi_ne _ _ (show ¬ (Ld b + 14 = Ld b + 16 ∧ 4 = F 8) by omega), zpi_ne _ _ (show ¬ (Ld b + 14 = Ld b + 15 ∧ 4 = F 8) by omega), g8, zlt_e, nI_1]
          have gj : gA (Ld b) X (zpi (zpi (zpi (zpi c4 (Ld b + 15) (F 8) (nI h)) (Ld b + 16) (F 8) (nI p)) (Ld b + 17) (F 8) (nI w)) (Ld b + 18) (F 8) (nI v)).1 := by
            have jc' : ∀ i, i < 4 → jc (Ld b) X (Ld b + 15 + i) (F 8) := fun i hi => by
              unfold jc
              rw [G]
              exact ⟨fun l hl => by omega, by omega, fun p hp => by omega, fun p hp => by omega, fun p hp => by omega, fun p hp => by omega, fun p hp => by omega, fun p hp => by omega⟩
            have j9 : jk X 9 := ⟨fun k hk => by omega, fun p hp => by omega, fun p hp => by omega, fun p hp => by omega, fun p hp => by omega, fun p hp => by omega, fun p hp => by omega⟩
            have a1 := S4.g.j (j := 9) (v := X 9) (i' := (zpi c4 (Ld b + 15) (F 8) (nI h)).1) j9 (jc' 0 (by omega)) (fun x l z => zpi_ne _ _ z)
            rw [uF_s] at a1
            have a2 := a1.j (j := 9) (v := X 9) (i' := (zpi (zpi c4 (Ld b + 15) (F 8) (nI h)) (Ld b + 16) (F 8) (nI p)).1) j9 (jc' 1 (by omega)) (fun x l z => zpi_ne _ _ z)
            rw [uF_s] at a2
            have a3 := a2.j (j := 9) (v := X 9) (i' := (zpi (zpi (zpi c4 (Ld b + 15) (F 8) (nI h)) (Ld b + 16) (F 8) (nI p)) (Ld b + 17) (F 8) (nI w)).1) j9 (jc' 2 (by omega)) (fun x l z => zpi_ne _ _ z)
            rw [uF_s] at a3
            have a4 := a3.j (j := 9) (v := X 9) (i' := (zpi (zpi (zpi (zpi c4 (Ld b + 15) (F 8) (nI h)) (Ld b + 16) (F 8) (nI p)) (Ld b + 17) (F 8) (nI w)) (Ld b + 18) (F 8) (nI v)).1) j9 (jc' 3 (by omega)) (fun x l z => zpi_ne _ _ z)
            rw [uF_s] at a4
            exact a4
          have S5 : SS b tp n (uF X 8 (X 8 + 1)) R N a4 e4 kd4 (zpi (zpi (zpi (zpi (zpi c4 (Ld b + 15) (F 8) (nI h)) (Ld b + 16) (F 8) (nI p)) (Ld b + 17) (F 8) (nI w)) (Ld b + 18) (F 8) (nI v)) (Ld b + 14) 4 (nI (F 8 + 1))) (zpi (zpi m4 4 (48 + 4 * F 8) (nI v)) 4 8 (nI (X 8 + 1))) :=
            S4.u ((((((fr_r _ _).pi _ (by omega)).pi _ (by omega)).pi _ (by omega)).pi _ (by omega)).pi _ (by omega)) ((fr_r _ _).pi _ (by omega)) (gj.c8 (fun x l z => zpi_ne _ _ z) ((zpi_eq _ _ _ _).trans (by rw [G])) (by
              rw [G, G0, G1, G2, G3]
              refine ⟨?_, ?_, ?_, ?_⟩
              · rw [zpi_ne _ _ (by omega), zpi_ne _ _ (by omega), zpi_ne _ _ (by omega), zpi_eq]
              · rw [zpi_ne _ _ (by omega), zpi_ne _ _ (by omega), zpi_eq]
              · rw [zpi_ne _ _ (by omega), zpi_eq]
              · rw [zpi_eq])) (S4.p.f (fun x l z1 z2 => by rw [zpi_ne _ _ (by omega), zpi_ne _ _ (by omega), zpi_ne _ _ (by omega), zpi_ne _ _ (by omega), zpi_ne _ _ (by omega)])) (upR S4.r4 _ _) (fun l hl => (zpi_ne _ _ (by omega)).trans (S4.r6 l hl))
          have hυ : υ2.2 = RC b := by rw [s5]; exact t7.1.2.2.1
          have kυ : lK (Ld b) υ2.2 := by rw [hυ]; exact lK_d b
          have u12 : υ2.2 1 2 = Ld b := by rw [s5]; exact t7.1.q.2.1
          refine Or.inl ⟨_, R, _, a4, e4, kd4, _, _, ?_, ?_, S5, V.bid (x := h) (y := p) (w := w) (v := v) hb ?_ ?_ ?_ ?_ ?_ (fun l z1 z2 => ?_) p0 q0 ⟨t1, t2⟩ s2, ?_, ?_, ?_, ?_⟩
          · rw [u12, zck_t kL, s4, zbd_s, kυ.2.1.2.2.2.2.2.2.2.2, zck_t kυ.2.2.2.1, eA, zbd_s]; rfl
          · rw [s6, zbd_s, zck_t (zok_p (by omega) (by decide)), zlt_e, zbr_t i13, zpi_2, mr16 s7.1.q.2.2.1, w4, zck_t (by decide), zck_t (by decide), S4.r4 8 (by omega), zlt_e, nI_1]
          · rw [upE, G]
          · rw [upN (by omega), G0]
          · rw [upN (by omega), G1]
          · rw [upN (by omega), G2]
          · rw [upN (by omega), G3]
          · rw [upN z1, eX l z1 z2]
          · rw [upN (by omega), eX 9 (by omega) (by omega), h9]
          · exact fC4.tr (pc_d ((((((fr_r (fun x _ => Ld b ≤ x ∧ x ≤ Ld b + 18) c4).pi _ (by omega)).pi _ (by omega)).pi _ (by omega)).pi _ (by omega)).pi _ (by omega)))
          · exact fM4.pi _ (by unfold PMd; omega)
          · have := ad.2.2.2
            have := hS.2.1.1.1
            have := p3.2.2.2
            have := S1.2.1.1.1
            have := q3.2.2.2
            have := S2.2.1.1.1
            have := t7.2.2.2
            have := S3.2.1.1.1
            have := s7.2.2.2
            omega
        · have s6 : f_X11_after 0 (1000 + 17) (0 : Int32) (99 : Int32) (zpi m3 4 (47 + 4 * F 8) (nI w)) = some (0, m4) := s6
          refine OC_bad (f := f) f1 f2 (s3 _) ?_ ⟨s7.1, s7.2.1, fC3.tre s7.2.2⟩ (BM.p ⟨s8.1, s8.2.1, s8.2.2.1, fM3.trm s8.2.2.2⟩ (48 + 4 * F 8) 0)
          rw [s6, zbd_s, zck_t (zok_p (by omega) (by decide)), zlt_e, zbr_f (by rw [p13 s8.1]; decide)]
      · have t6 : f_X11_after 0 (1000 + 15) (1 : Int32) (9 : Int32) (zpi m2 4 (46 + 4 * F 8) (nI p)) = some (1, m3) := t6
        have R3 : m3.2 = RM := t8.2.2.2.1.trans R2
        refine OC_bad (f := f) f1 f2 (t3 _) ?_ ⟨t7.1, t7.2.1, fC2.tre t7.2.2⟩ (BM.p (BM.p ⟨t8.1, t8.2.1, t8.2.2.1, fM2.trm t8.2.2.2⟩ (47 + 4 * F 8) 1) (48 + 4 * F 8) 0)
        rw [t6, zbd_s, zck_t (zok_p (by omega) (by decide)), zlt_e, Mf_after (p13 t8.1), zbd_s, zpi_2, mr16 R3, w4, zck_t (zok_p (by omega) (by decide)), zlt_e, zbr_f (by rw [p13 (p13 t8.1)]; decide)]
    · have W := wr_13 (zpi m1 4 (45 + 4 * F 8) (nI h)) (nI f) (nI a1)
      have R2 : (wr (zpi m1 4 (45 + 4 * F 8) (nI h)) (nI f) (nI a1)).2 = RM := R1
      refine OC_bad (f := f) (y := nI a1) f1 f2 ?_ ?_ (BC_w fC1 _ _) ((((BM_w fM1 _ _).p (46 + 4 * F 8) 0).p (47 + 4 * F 8) 1).p (48 + 4 * F 8) 0)
      · rw [q1, zbd_s, cm1]
      · rw [q2, zbd_s, zck_t (zok_p (by omega) (by decide)), zlt_e, Mf_after (p13 W), zbd_s, zpi_2, mr16 R2, w4, zck_t (zok_p (by omega) (by decide)), zlt_e, Mf_after (p13 (p13 W)), zbd_s, zpi_2, zpi_2, mr16 R2, w4, zck_t (zok_p (by omega) (by decide)), zlt_e, zbr_f (by rw [p13 (p13 (p13 W))]; decide)]
  · have W := wr_13 σm (nI f) (nI a)
    have R2 : (wr σm (nI f) (nI a)).2 = RM := hR
    refine OC_bad (f := f) (y := nI a) f1 f2 ?_ ?_ (BC_w ad.c _ _) (((((BM_w ad.m _ _).p (45 + 4 * F 8) 0).p (46 + 4 * F 8) 0).p (47 + 4 * F 8) 1).p (48 + 4 * F 8) 0)
    · rw [p1, zbd_s, zlt_e, zbr_t m11, cm1]
    · rw [p2, zbd_s, zck_t (zok_p (by omega) (by decide)), zlt_e, Mf_placePassed (p13 W), zbd_s, zpi_2, mr16 R2, w4, zck_t (zok_p (by omega) (by decide)), zlt_e, Mf_after (p13 (p13 W)), zbd_s, zpi_2, zpi_2, mr16 R2, w4, zck_t (zok_p (by omega) (by decide)), zlt_e, Mf_after (p13 (p13 (p13 W))), zbd_s, zpi_2, zpi_2, zpi_2, mr16 R2, w4, zck_t (zok_p (by omega) (by decide)), zlt_e, zbr_f (by rw [p13 (p13 (p13 (p13 W)))]; decide)]
end LF2
