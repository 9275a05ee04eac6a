/-! letter, as a whole -/
theorem Lc_n (b : Bool) : Lc (!b) = Ld b := by cases b <;> rfl
theorem C_swap {σ : zS} (h : σ.2 0 0 = 1) (G : zS → Option (Int32 × zS)) : zlt (σ.2 0 8) (fun v14 => zck (WC.2 (σ.2 0 0) = (8, 0)) (zlt (zpr σ 0 8 (σ.2 (σ.2 0 0) 2)) (fun σ16 => zck (WC.2 (σ16.2 0 0) = (8, 0)) (zlt (zpr σ16 (σ16.2 0 0) 2 v14) G)))) = G (zpr (zpr σ 0 8 (σ.2 1 2)) 1 2 (σ.2 0 8)) := by
  have q : ∀ v, (zpr σ 0 8 v).2 0 0 = 1 := fun v => h
  rw [zlt_e, h, zck_t k1, zlt_e, q, zck_t k1, zlt_e]
theorem zpr_sw {b : Bool} {σ : zS} (h : σ.2 = RC b) : ∃ Y : zS, zpr (zpr σ 0 8 (σ.2 1 2)) 1 2 (σ.2 0 8) = Y ∧ Y.2 = RC (!b) ∧ Y.1 = σ.1 := by
  obtain ⟨i, r⟩ := σ
  have h : r = RC b := h
  subst h
  exact ⟨_, RC_swap i b, rfl, rfl⟩
theorem mkD0 : nI (mk D0 6) = 0 := by decide
theorem RCn (b : Bool) : RC (!b) 0 8 = Ld b := by rw [(RCs (!b)).1]; cases b <;> rfl
theorem lK_n (b : Bool) : lK (Ld b) (RC (!b)) := by have := lK_c (!b); rw [Lc_n] at this; exact this
theorem O_letter : zO_letter Rel := by
  intro σc σm a1 hRel
  have hRel0 := hRel
  obtain ⟨b, A, B, T, hA, hB, hT, hc, hm, ⟨hf, ⟨n0, tp, t1, t2, t3, t4⟩, ni, nu, ⟨i1, i2, i3, M, i4⟩, ⟨p1, p2, p3, U, p4, p5⟩, hz⟩, hFil, h10, h12⟩ := hRel
  have hv := Ld_v b
  have hlv := Lc_v b
  have hdl : (Ld b = 9 ∧ Lc b = 69) ∨ (Ld b = 69 ∧ Lc b = 9) := by cases b; exact Or.inl ⟨rfl, rfl⟩; exact Or.inr ⟨rfl, rfl⟩
  have hcR := hc.1
  have r00 : σc.2 0 0 = 1 := by rw [hcR]; simp only [RCs]
  have r10 : σc.2 1 0 = 2 := by rw [hcR]; simp only [RCs]
  have hin : f_X11_in a1 0 (nI n0) (gd σm) = some (bI (inR a1 (n0 + 1)), gd σm) := M_inc a1 (by omega) (gd σm)
  have m2 : (gd σm).1 0 2 = nI n0 := by unfold gd; rw [zpi_ne _ _ (by omega), zpi_ne _ _ (by omega)]; exact t3
  cases hr : inR a1 (n0 + 1) with
  | false =>
    refine hRel0.ref (v := -1) (t := 2) (by decide) (QC_any ?_) (QM_any ?_)
    · have h18 : f_X10_letter_18 0 σc = some (-1, zpi σc 0 10 2) := by unfold f_X10_letter_18; rw [C_refuse, zbd_s]
      unfold f_X10_letter
      rw [zck_t v0, h18]
      by_cases q : a1 < 0
      · rw [zbr_t q]
      · rw [zbr_f q, r00, zck_t k1, r10, zck_t k2, t2, zbr_f (fun z => ?_)]
        have z1 := Int32.le_iff_toInt_le.mp z
        rw [nI_toInt (by omega)] at z1
        have z2 : 0 ≤ a1.toInt := by
          have := (not_congr Int32.lt_iff_toInt_lt).mp q
          have e0 : (0 : Int32).toInt = 0 := by decide
          omega
        unfold inR at hr
        exact absurd (⟨z2, by omega⟩ : 0 ≤ a1.toInt ∧ a1.toInt < (n0 + 1 : Nat)) (of_decide_eq_false hr)
    · unfold f_X11_letter
      rw [zck_t w0, M_good, zbd_s, m2, hin, zbd_s, hr, zbr_t (c := bI false = 0) rfl, M_no, zbd_s]
  | true =>
    obtain ⟨n, hn, rfl⟩ := inR_t hr
    obtain ⟨μ, hμ⟩ : ∃ μ, zpi (zpi (zpi (gd σm) 0 2 0) 0 9 0) 0 13 0 = μ := ⟨_, rfl⟩
    have fμ : fr (fun a k => a = 0 ∧ (k = 0 ∨ k = 11 ∨ k = 2 ∨ k = 9 ∨ k = 13)) σm μ := by
      rw [← hμ]; unfold gd
      exact (((((fr_r _ σm).pi _ (by omega)).pi _ (by omega)).pi _ (by omega)).pi _ (by omega)).pi _ (by omega)
    have μ13 : μ.1 0 13 = 0 := by rw [← hμ, zpi_eq]
    have μ9 : μ.1 0 9 = 0 := by rw [← hμ, zpi_ne _ _ (by omega), zpi_eq]
    have μ2 : μ.1 0 2 = 0 := by rw [← hμ, zpi_ne _ _ (by omega), zpi_ne _ _ (by omega), zpi_eq]
    have μ11 : μ.1 0 11 = 0 := by rw [← hμ, zpi_ne _ _ (by omega), zpi_ne _ _ (by omega), zpi_ne _ _ (by omega)]; exact gd_11 σm
    have hmR : μ.2 = RM := fμ.1.trans hm.1
    obtain ⟨σ0, ρ0, f1, f2, f3, EE⟩ := L_start (A := A) (B := B) (T := T) (tp := tp) (n := n) hcR hmR (by omega) (fun k hk => ⟨(t4 k (by omega)).1, (t4 k (by omega)).2.1, (fμ.2 1 k (by omega)).trans (t4 k (by omega)).2.2⟩) μ13
    have preM : f_X11_letter 0 (nI n) σm = f_X11_letter_39 0 FU (nI n) 0 μ := by
      unfold f_X11_letter
      rw [zck_t w0, M_good, zbd_s, m2, hin, zbd_s, hr, zbr_f (c := bI true = 0) (by decide), zlt_e, zlt_e, zck_t (c := zb (0 : Int32)) (by decide), zlt_e, zlt_e, hμ]
    have preC : ∀ τ K : zS, τ.2 = RC b → f_X8_readFirst 1 (nI n) σc = some ((), τ) → (zpi (zpi (zpi τ 2 1 0) 0 11 (τ.1 1 3)) 0 12 (τ.1 1 4)) = K → f_X10_letter 0 (nI n) σc = zbr (K.1 0 11 = 0) (zlt (K.2 0 8) (fun v14 => zck (WC.2 (K.2 0 0) = (8, 0)) (zlt (zpr K 0 8 (K.2 (K.2 0 0) 2)) (fun σ16 => zck (WC.2 (σ16.2 0 0) = (8, 0)) (zlt (zpr σ16 (σ16.2 0 0) 2 v14) (fun σ18 => zck (WC.2 (σ18.2 0 8) = (3, 0)) (zck (WC.2 (σ18.2 0 3) = (6, 0)) (zbd (f_X6_copyFrom (σ18.2 0 3) (σ18.2 (σ18.2 0 8) 7) σ18) (fun r21 σ22 => zck (WC.2 (σ22.2 0 1) = (5, 0)) (zbd (f_X5_arrange (σ22.2 0 1) (σ22.2 0 8) (0 : Int32) σ22) (fun r24 σ25 => zck (WC.2 (σ25.2 0 6) = (2, 0)) (zck (zb (0 : Int32)) (zlt (zpi σ25 (σ25.2 0 6) 6 (0 : Int32)) (fun σ27 => zck (WC.2 (σ27.2 0 5) = (7, 0)) (zlt (zpi σ27 (σ27.2 0 5) 2 (0 : Int32)) (fun σ29 => zlt (zpi σ29 0 9 (0 : Int32)) (fun σ30 => zck (WC.2 (σ30.2 0 8) = (3, 0)) (zbd (f_X10_grant 0 (σ30.1 (σ30.2 0 8) 10) σ30) (fun r32 σ33 => some (r32, σ33)))))))))))))))))))) (zbd (f_X10_refuse 0 (4 : Int32) K) (fun r34 σ35 => some (r34, σ35))) := by
      intro τ K hτ eτ hK
      have x00 : τ.2 0 0 = 1 := by rw [hτ]; simp only [RCs]
      have x10 : τ.2 1 0 = 2 := by rw [hτ]; simp only [RCs]
      unfold f_X10_letter
      rw [zck_t v0, zbr_f (show ¬ nI n < (0 : Int32) from (nI_nlt (Nat.zero_le _) (by omega) : ¬ nI n < nI 0)), r00, zck_t k1, r10, zck_t k2, t2, zbr_t (nI_le (by omega) (by omega)), eτ, zbd_s, x00, zck_t k1, x10, zck_t k2, zlt_e, zpi_2, x00, zck_t k1, zpi_ne _ _ (show ¬ (1 = 2 ∧ 3 = 1) by omega), zlt_e, zpi_2, zpi_2, x00, zck_t k1, zpi_ne _ _ (show ¬ (1 = 0 ∧ 4 = 11) by omega), zpi_ne _ _ (show ¬ (1 = 2 ∧ 4 = 1) by omega), zlt_e, hK]
    rcases EE with ⟨F, R, N, a, e, kd, τc, τm, z1, z2, S, V, z5, z6, z7, z8⟩ | ⟨f, y, τc, τm, z1, z2, z3, z4, z5, z6⟩
    · have τ13 : τc.1 1 3 = 0 := (z7.2 1 3 (by unfold PCd; omega)).trans f3
      have g1 : fr (fun a k => a = 1 ∨ (a = 2 ∧ k ≠ 1) ∨ (4 ≤ a ∧ a ≤ 8) ∨ (Ld b ≤ a ∧ a ≤ Ld b + 18)) σc τc := f1.tr (z7.mo (fun x l z => by unfold PCd at z; omega))
      have g2 : fr (fun a k => a = 2 ∨ a = 4 ∨ a = 6 ∨ (a = 0 ∧ (k = 0 ∨ k = 2 ∨ (3 ≤ k ∧ k ≤ 8) ∨ k = 9 ∨ k = 11 ∨ k = 13))) σm τm := (fμ.mo (fun _ _ z => by omega)).tr ((f2.mo (fun _ _ z => by omega)).tr (z8.mo (fun x l z => by unfold PMd at z; omega)))
      have τ2 : τm.1 0 2 = 0 := by rw [z8.2 0 2 (by unfold PMd; omega), f2.2 0 2 (by omega)]; exact μ2
      have τ9 : τm.1 0 9 = 0 := by rw [z8.2 0 9 (by unfold PMd; omega), f2.2 0 9 (by omega)]; exact μ9
      have τ11 : τm.1 0 11 = 0 := by rw [z8.2 0 11 (by unfold PMd; omega), f2.2 0 11 (by omega)]; exact μ11
      obtain ⟨K, hK⟩ : ∃ K, zpi (zpi (zpi τc 2 1 0) 0 11 0) 0 12 (τc.1 1 4) = K := ⟨_, rfl⟩
      have KR : K.2 = RC b := by rw [← hK]; exact g1.1.trans hcR
      obtain ⟨Y, hY, YR, Y1⟩ := zpr_sw KR
      have K11 : K.1 0 11 = 0 := by rw [← hK, zpi_ne _ _ (by omega), zpi_eq]
      have K21 : K.1 2 1 = 0 := by rw [← hK, zpi_ne _ _ (by omega), zpi_ne _ _ (by omega), zpi_eq]
      have fi1 : ∀ x l, 9 ≤ x → Y.1 x l = τc.1 x l := fun x l hx => by rw [Y1, ← hK, zpi_ne _ _ (by omega), zpi_ne _ _ (by omega), zpi_ne _ _ (by omega)]
      have hkn := lK_n b
      have gY : gA (Ld b) F Y.1 := S.g.f (fun x l _ _ => fi1 x l (by omega))
      have pY : pI (Ld b + 8) R Y.1 := S.p.f (fun x l _ _ => fi1 x l (by omega))
      have hA' : vA F := vF_vA V.1 V.2.2.2 z6
      obtain ⟨⟨⟩, s1, y1, y2, y3⟩ := C_copyFrom (c := 32) (x := Ld b + 8) (B := R) (σ := Y) (by rw [YR]; exact pK_32 (!b)) ⟨by rw [YR]; exact hkn.2.2.2.2.2.2, pY⟩ V.2.1.1.1 (by omega)
      have s1R : s1.2 = RC (!b) := y2.1.trans YR
      obtain ⟨⟨⟩, s2, w1, w2, w3⟩ := C_arrange (a := 28) (c := Ld b) (A := F) (σ := s1) D0 hA' (by rw [s1R]; exact oK_28 (!b)) (by rw [s1R]; exact hkn) (gY.f (fun x l _ _ => y2.2 x l (by omega))) (by omega)
      rw [mkD0] at w1
      have s2R : s2.2 = RC (!b) := w2.1.trans s1R
      have rs := RCs (!b)
      have h8 := RCn b
      have r3 : RC (!b) 0 3 = 32 := by simp only [RCs]
      have r1 : RC (!b) 0 1 = 28 := by simp only [RCs]
      have r5 : RC (!b) 0 5 = 57 := by simp only [RCs]
      have r6 : RC (!b) 0 6 = 60 := by simp only [RCs]
      have gS : gA (Ld b) F s2.1 := gY.f (fun x l _ _ => (w2.2 x l (by omega)).trans (y2.2 x l (by omega)))
      obtain ⟨i10, i12, iR, i13, -⟩ := S.q
      obtain ⟨⟨⟩, m1, c1, c2, c3⟩ := M_copy (a := 4) (b := 3) (x := 0) (y := 0) (n := 195) (ka := 195) (kb := 195) (σ := τm) w4 (show WM.2 3 = (100, 195) from rfl) (by decide) (by decide) (by decide) (by decide)
      have m1R : m1.2 = RM := c2.1.trans iR
      obtain ⟨⟨⟩, m2', c4, c5, c6⟩ := M_copy (a := 6) (b := 5) (x := 0) (y := 0) (n := 50) (ka := 50) (kb := 50) (σ := m1) w6 (show WM.2 5 = (100, 50) from rfl) (by decide) (by decide) (by decide) (by decide)
      have m2R : m2'.2 = RM := c5.1.trans m1R
      obtain ⟨⟨⟩, m3, c7, c8, c9⟩ := M_copy (a := 6) (b := 7) (x := 0) (y := 0) (n := 50) (ka := 50) (kb := 50) (σ := m2') w6 (show WM.2 7 = (100, 50) from rfl) (by decide) (by decide) (by decide) (by decide)
      have m3R : m3.2 = RM := c8.1.trans m2R
      have c1 : f_X11_copy 4 (0 : Int32) 3 (0 : Int32) (195 : Int32) τm = some ((), m1) := c1
      have c4 : f_X11_copy 6 (0 : Int32) 5 (0 : Int32) (50 : Int32) m1 = some ((), m2') := c4
      have c7 : f_X11_copy 6 (0 : Int32) 7 (0 : Int32) (50 : Int32) m2' = some ((), m3) := c7
      have d3 : ∀ k, k < 69 → m3.1 3 k = nI (F k) := fun k hk => by
        have := c3 k (by omega)
        rw [Nat.zero_add] at this
        rw [c8.2 3 k (by omega), c5.2 3 k (by omega), this]
        exact S.r4 k hk
      have d5 : ∀ k, k < 50 → m3.1 5 k = nI (R k) := fun k hk => by
        have := c6 k hk
        rw [Nat.zero_add] at this
        rw [c8.2 5 k (by omega), this, c2.2 6 k (by omega)]
        exact S.r6 k hk
      have d7 : ∀ k, k < 50 → m3.1 7 k = nI (R k) := fun k hk => by
        have := c9 k hk
        rw [Nat.zero_add] at this
        rw [this, c5.2 6 k (by omega), c2.2 6 k (by omega)]
        exact S.r6 k hk
      have fm3 : ∀ k, m3.1 0 k = τm.1 0 k := fun k => (c8.2 0 k (by omega)).trans ((c5.2 0 k (by omega)).trans (c2.2 0 k (by omega)))
      have hp : 0 < F 1 := by omega
      have eC : f_X10_letter 0 (nI n) σc = some (nI (F 1), zpi (zpi (zpi (zpi s2 60 6 0) 57 2 0) 0 9 0) 0 10 0) := by
        have K00 : K.2 0 0 = 1 := by rw [KR]; simp only [RCs]
        rw [preC τc K (g1.1.trans hcR) z1 (by rw [τ13]; exact hK), zbr_t K11]
        refine (C_swap K00 _).trans ?_
        rw [hY, YR, h8, zck_t hkn.1, r3, zck_t v32, hkn.2.1.2.2.2.2.2.2.2.1, y1, zbd_s, s1R, r1, zck_t v28, h8, w1, zbd_s, s2R, r6, zck_t (show WC.2 60 = (2, 0) from rfl), zck_t (c := zb (0 : Int32)) (by decide), zlt_e, zpi_2, s2R, r5, zck_t (show WC.2 57 = (7, 0) from rfl), zlt_e, zlt_e, zpi_2, zpi_2, zpi_2, s2R, h8, zck_t hkn.1, C_grant, zbd_s, zpi_ne _ _ (by omega), zpi_ne _ _ (by omega), zpi_ne _ _ (by omega), gS.1.2.1]
      have eM : f_X11_letter 0 (nI n) σm = some (nI (F 1), zpi (zpi (zpi m3 0 14 1) 0 22 0) 0 23 0) := by
        rw [preM, z2]
        unfold f_X11_letter_184
        rw [zbr_t i13, mr16 iR, mr15 iR, c1, zbd_s, mr18 m1R, mr17 m1R, c4, zbd_s, mr18 m2R, mr19 m2R, c7, zbd_s, zck_t (c := zb (1 : Int32)) (by decide), zlt_e, zlt_e, zlt_e, zpi_2, zpi_2, zpi_2, mr15 m3R, (show WM.2 3 = (100, 195) from rfl), zck_t (by decide), cl1, zpi_ne _ _ (by omega), zpi_ne _ _ (by omega), zpi_ne _ _ (by omega), d3 1 (by omega)]
      refine ⟨nI (F 1), _, _, eC, eM, !b, F, R, R, hA', V.2.1, V.2.1, ⟨s2R, ?_, ?_, ?_, ?_⟩, ⟨m3R, fun k hk => ?_, fun k hk => ?_, fun k hk => ?_, ?_, ?_⟩, ⟨?_, ⟨0, tp, by omega, ?_, ?_, fun k hk => absurd hk (Nat.not_lt_zero k)⟩, 0, 0, ⟨by omega, ?_, ?_, fun _ => Fz, fun q hq => absurd hq (Nat.not_lt_zero q)⟩, ⟨by omega, ?_, ?_, fun _ => R, rfl, fun q hq => absurd hq (Nat.not_lt_zero q)⟩, fun _ => ⟨rfl, rfl⟩⟩, Or.inl ?_, ?_, fun z => ?_⟩
      · rw [Lc_n]; exact gS.f (fun x l _ _ => by rw [zpi_ne _ _ (by omega), zpi_ne _ _ (by omega), zpi_ne _ _ (by omega), zpi_ne _ _ (by omega)])
      · exact y3.f (fun x l _ _ => by rw [zpi_ne _ _ (by omega), zpi_ne _ _ (by omega), zpi_ne _ _ (by omega), zpi_ne _ _ (by omega)]; exact w2.2 x l (by omega))
      · rw [Lc_n]; exact pY.f (fun x l _ _ => by rw [zpi_ne _ _ (by omega), zpi_ne _ _ (by omega), zpi_ne _ _ (by omega), zpi_ne _ _ (by omega)]; exact (w2.2 x l (by omega)).trans (y2.2 x l (by omega)))
      · exact w3.f (fun x l _ _ => by rw [zpi_ne _ _ (by omega), zpi_ne _ _ (by omega), zpi_ne _ _ (by omega), zpi_ne _ _ (by omega)])
      · rw [zpi_ne _ _ (by omega), zpi_ne _ _ (by omega), zpi_ne _ _ (by omega)]; exact d3 k hk
      · rw [zpi_ne _ _ (by omega), zpi_ne _ _ (by omega), zpi_ne _ _ (by omega)]; exact d7 k hk
      · rw [zpi_ne _ _ (by omega), zpi_ne _ _ (by omega), zpi_ne _ _ (by omega)]; exact d5 k hk
      · rw [zpi_ne _ _ (by omega), zpi_ne _ _ (by omega), zpi_ne _ _ (by omega), fm3, g2.2 0 24 (by omega)]; exact hm.2.2.2.2.1
      · rw [zpi_ne _ _ (by omega), zpi_ne _ _ (by omega), zpi_eq, decide_eq_true hp]; rfl
      · rw [zpi_ne _ _ (by omega), zpi_ne _ _ (by omega), zpi_ne _ _ (by omega), zpi_ne _ _ (by omega), w2.2 0 11 (by omega), y2.2 0 11 (by omega), zpi_ne _ _ (by omega), zpi_ne _ _ (by omega), zpi_ne _ _ (by omega), fm3, τ9, Y1, K11]
      · rw [zpi_ne _ _ (by omega), zpi_ne _ _ (by omega), zpi_ne _ _ (by omega), zpi_ne _ _ (by omega), w2.2 2 1 (by omega), y2.2 2 1 (by omega), Y1, K21]; rfl
      · rw [zpi_ne _ _ (by omega), zpi_ne _ _ (by omega), zpi_ne _ _ (by omega), fm3, τ2]; rfl
      · rw [zpi_ne _ _ (by omega), zpi_eq]; rfl
      · rw [zpi_eq]; rfl
      · rw [zpi_ne _ _ (by omega), zpi_ne _ _ (by omega), zpi_eq]; rfl
      · rw [zpi_ne _ _ (by omega), zpi_eq]; rfl
      · rw [zpi_ne _ _ (by omega), zpi_ne _ _ (by omega), zpi_ne _ _ (by omega), zpi_eq]
      · rw [zpi_eq, zpi_ne _ _ (by omega), zpi_ne _ _ (by omega), zpi_ne _ _ (by omega), fm3, τ11]
      · rw [zpi_eq] at z
        exact absurd z (by decide)
    · have g1 : fr (fun a k => a = 1 ∨ (a = 2 ∧ k ≠ 1) ∨ (4 ≤ a ∧ a ≤ 8) ∨ (Ld b ≤ a ∧ a ≤ Ld b + 18)) σc τc := f1.tr (z5.2.2.mo (fun x l z => by unfold PCe PCd at z; omega))
      have g2 : fr (fun a k => a = 2 ∨ a = 4 ∨ a = 6 ∨ (a = 0 ∧ (k = 0 ∨ (2 ≤ k ∧ k ≤ 11) ∨ k = 13))) σm τm := (fμ.mo (fun _ _ z => by omega)).tr ((f2.mo (fun _ _ z => by omega)).tr (z6.2.2.2.mo (fun x l z => by unfold PMe PMd at z; omega)))
      have τ2 : τm.1 0 2 = 0 := by rw [z6.2.2.2.2 0 2 (by unfold PMe PMd; omega), f2.2 0 2 (by omega)]; exact μ2
      have nf : ¬ nI f = 0 := nI_ne0 (by omega) (by omega)
      refine ⟨-1, zpi (zpi (zpi (zpi τc 2 1 0) 0 11 (nI f)) 0 12 y) 0 10 4, zpi τm 0 11 4, ?_, ?_, ?_⟩
      · rw [preC τc (zpi (zpi (zpi τc 2 1 0) 0 11 (nI f)) 0 12 y) (g1.1.trans hcR) z3 (by rw [z5.1, z5.2.1]), zbr_f (by rw [zpi_ne _ _ (by omega), zpi_eq]; exact nf), C_refuse, zbd_s]
      · rw [preM, z4]
        unfold f_X11_letter_184
        rw [zbr_f (by rw [z6.1]; decide), M_no, zbd_s]
      · have G1 : fr (fun a k => a = 1 ∨ a = 2 ∨ (a = 0 ∧ (k = 10 ∨ k = 11 ∨ k = 12)) ∨ (4 ≤ a ∧ a ≤ 8) ∨ (Ld b ≤ a ∧ a ≤ Ld b + 18)) σc (zpi (zpi (zpi (zpi τc 2 1 0) 0 11 (nI f)) 0 12 y) 0 10 4) := ((((g1.mo (fun _ _ z => by omega)).pi _ (by omega)).pi _ (by omega)).pi _ (by omega)).pi _ (by omega)
        have G2 : fr (fun a k => a = 2 ∨ a = 4 ∨ a = 6 ∨ (a = 0 ∧ (k = 0 ∨ (2 ≤ k ∧ k ≤ 11) ∨ k = 13))) σm (zpi τm 0 11 4) := g2.pi _ (by omega)
        refine ⟨b, A, B, T, hA, hB, hT, ⟨G1.1.trans hcR, hc.2.1.f (fun x l _ _ => G1.2 x l (by omega)), hc.2.2.1.f (fun x l _ _ => G1.2 x l (by omega)), hc.2.2.2.1.f (fun x l _ _ => G1.2 x l (by omega)), hc.2.2.2.2.f (fun x l _ _ => G1.2 x l (by omega))⟩, ⟨G2.1.trans hm.1, fun k hk => (G2.2 3 k (by omega)).trans (hm.2.1 k hk), fun k hk => (G2.2 7 k (by omega)).trans (hm.2.2.1 k hk), fun k hk => (G2.2 5 k (by omega)).trans (hm.2.2.2.1 k hk), (G2.2 0 24 (by omega)).trans hm.2.2.2.2.1, (G2.2 0 14 (by omega)).trans hm.2.2.2.2.2⟩, ⟨?_, ⟨0, tp, by omega, ?_, ?_, fun k hk => absurd hk (Nat.not_lt_zero k)⟩, ni, nu, ⟨i1, (G1.2 0 9 (by omega)).trans i2, (G2.2 0 23 (by omega)).trans i3, M, fun q hq => ⟨(i4 q hq).1, (i4 q hq).2.1.f (fun x l _ _ => G1.2 x l (by omega)), fun k hk => (G2.2 9 _ (by omega)).trans ((i4 q hq).2.2 k hk)⟩⟩, ⟨p1, (G1.2 57 2 (by omega)).trans p2, (G2.2 0 22 (by omega)).trans p3, U, p4, fun q hq => ?_⟩, hz⟩, hFil.f (fun x l _ _ => G1.2 x l (by omega)), ?_, fun _ => ?_⟩
        · rw [zpi_ne _ _ (by omega), zpi_ne _ _ (by omega), zpi_eq, zpi_ne _ _ (by omega)]; exact z6.2.1.symm
        · rw [zpi_ne _ _ (by omega), zpi_ne _ _ (by omega), zpi_ne _ _ (by omega), zpi_eq]; rfl
        · rw [zpi_ne _ _ (by omega)]; exact τ2
        · obtain ⟨o1, o2, kd, w, o3, o4, o5⟩ := p5 q hq
          exact ⟨o1, fun k hk => (G2.2 8 _ (by omega)).trans (o2 k hk), kd, w, (G1.2 58 _ (by omega)).trans o3, (G1.2 59 _ (by omega)).trans o4, o5⟩
        · rw [zpi_eq, zpi_eq]
        · rw [zpi_ne _ _ (by omega), zpi_eq, zpi_ne _ _ (by omega)]; exact z6.2.2.1.symm
