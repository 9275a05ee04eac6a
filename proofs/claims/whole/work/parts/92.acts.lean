/-! write, strike, fold, undo, image, back -/
section AC
variable {b : Bool} {A B T : Nat → Nat} {D : Nat → Bool} {σ : zS}
theorem cU.r5 (h : cU b A B T σ) : σ.2 0 5 = 57 := by rw [h.1]; simp only [RCs]
theorem cU.r570 (h : cU b A B T σ) : σ.2 57 0 = 58 := by rw [h.1]; simp only [RCs]
theorem cU.r571 (h : cU b A B T σ) : σ.2 57 1 = 59 := by rw [h.1]; simp only [RCs]
theorem cU.r4 (h : cU b A B T σ) : σ.2 0 4 = 38 := by rw [h.1]; simp only [RCs]
theorem RC_fr {σ τ : zS} {P : Nat → Nat → Prop} (h : σ.2 = RC b) (g : fr P σ τ) : τ.2 = RC b := g.1.trans h
theorem in19 (x : Int32) (σ : zS) : f_X11_in x 1 9 σ = some (bI (inR x 10 && !decide (x = 0)), σ) := by
  unfold f_X11_in
  by_cases q : x < 0
  · rw [inR_neg q, zbr_t (Int32.lt_iff_toInt_lt.mpr (by have := Int32.lt_iff_toInt_lt.mp q; have h0 : (0 : Int32).toInt = 0 := (by decide); have h1 : (1 : Int32).toInt = 1 := (by decide); omega))]
    rfl
  · obtain ⟨n, hn, rfl⟩ := nI_of q
    rw [inR_n hn]
    by_cases h0 : n = 0
    · subst h0
      rw [zbr_t (by decide)]; rfl
    · rw [zbr_f (show ¬ nI n < (1 : Int32) from nI_nlt (b := 1) (by omega) hn), decide_eq_false (show ¬ nI n = 0 from nI_ne0 (by omega) hn)]
      by_cases h5 : n < 10
      · rw [zbr_f (show ¬ (9 : Int32) < nI n from nI_nlt (a := 9) (by omega) (by decide)), decide_eq_true h5]; rfl
      · rw [zbr_t (show (9 : Int32) < nI n from nI_lt (a := 9) (by omega) hn), decide_eq_false h5]; rfl
/-- a new state of the class behind what is kept -/
theorem keepC {τ : zS} (hc : cU b A B T σ) (hF : fr (fun a _ => 32 ≤ a ∧ a ≤ 37) σ τ) {n kd w : Nat} (h2 : σ.1 57 2 = nI n) (hn : n ≤ 16) : zH (f_X7_keep 57 (nI kd) (nI w) τ) (fun _ σ' => fr PA σ σ' ∧ fr (fun a _ => 57 ≤ a ∧ a ≤ 59) τ σ' ∧ σ'.1 57 2 = nI (nn n) ∧ (∀ q, q + 1 < nn n → σ'.1 58 q = σ.1 58 (q + sh n) ∧ σ'.1 59 q = σ.1 59 (q + sh n)) ∧ σ'.1 58 (nn n - 1) = nI kd ∧ σ'.1 59 (nn n - 1) = nI w) := by
  refine zH_mono (C_keep (n := n) (kd := kd) (w := w) (σ := τ) ((hF.2 57 2 (by omega)).trans h2) hn (by rw [hF.1]; exact hc.r570) (by rw [hF.1]; exact hc.r571)) (fun _ σ' h => ?_)
  obtain ⟨g1, g2, g3, g4, g5⟩ := h
  refine ⟨(hF.mo (fun a k z => Or.inl z)).tr (g1.mo (fun a k z => by omega)), g1.mo (fun a k z => by omega), g2, fun q hq => ?_, g4, g5⟩
  have := g3 q hq
  rw [hF.2 58 _ (by omega), hF.2 59 _ (by omega)] at this
  exact this
theorem Pn_PB (a k : Nat) (h : Pn a k) : PB a k := by unfold Pn at h; unfold PB; omega
theorem noteM (hm : mU A B T D0 σ) {n : Nat} (h22 : σ.1 0 22 = nI n) (hn : n ≤ 16) : zH (f_X11_note 0 (gd σ)) (fun _ σ' => fr PB σ σ' ∧ fr Pn (gd σ) σ' ∧ mU A B T D0 σ' ∧ σ'.1 0 11 = 0 ∧ σ'.1 0 22 = nI (nn n) ∧ (∀ q, q + 1 < nn n → ∀ k, k < 50 → σ'.1 8 (50 * q + k) = σ.1 8 (50 * (q + sh n) + k)) ∧ ∀ k, k < 50 → σ'.1 8 (50 * (nn n - 1) + k) = nI (B k)) := by
  have hg := hm.g
  have g0 : ∀ a k, ¬ (a = 0 ∧ (k = 0 ∨ k = 11)) → (gd σ).1 a k = σ.1 a k := fun a k z => by
    unfold gd
    rw [zpi_ne _ _ (by omega), zpi_ne _ _ (by omega)]
  refine zH_mono (M_note (n := n) hg.1 ((g0 0 22 (by omega)).trans h22) hn) (fun _ σ' h => ?_)
  obtain ⟨g1, g2, g3, g4⟩ := h
  have e : ∀ a k, ¬ Pn a k → σ'.1 a k = (gd σ).1 a k := g1.2
  refine ⟨⟨g1.1, fun a k z => ?_⟩, g1, ⟨g1.1.trans hg.1, fun k hk => (e 3 k (by unfold Pn; omega)).trans (hg.2.1 k hk), fun k hk => (e 7 k (by unfold Pn; omega)).trans (hg.2.2.1 k hk), fun k hk => (e 5 k (by unfold Pn; omega)).trans (hg.2.2.2.1 k hk), (e 0 24 (by unfold Pn; omega)).trans hg.2.2.2.2.1, (e 0 14 (by unfold Pn; omega)).trans hg.2.2.2.2.2⟩, (e 0 11 (by unfold Pn; omega)).trans (gd_11 σ), g2, fun q hq k hk => ?_, fun k hk => ?_⟩
  · rw [g1.2 a k (fun y => z (Pn_PB a k y)), g0 a k (by unfold PB at z; omega)]
  · rw [g3 q hq k hk, g0 8 _ (by omega)]
  · rw [g4 k hk]; exact hg.2.2.1 k hk
end AC
theorem O_strike : zO_strike Rel := by
  intro σc σm x hR
  have hR0 := hR
  obtain ⟨b, A, B, T, hA, hB, hT, hc, hm, h6, h7, h8, h9⟩ := hR
  have hA1 := hA.1
  have hg := hm.g
  cases hx : inR x (B 48)
  · refine hR0.ref (v := 0) (t := 1) (by decide) (QC_any ?_) (QM_any ?_)
    · unfold f_X10_strike; rw [zck_t v0, C_isLine hc hB.1, hx, zbd_s, zbr_t (by rfl), C_refuse, zbd_s]; rfl
    · unfold f_X11_strike; rw [zck_t w0, M_good, zbd_s, M_isLine hg hB.1, hx, zbd_s, zbr_t (by rfl)]; rfl
  · obtain ⟨l, hl, rfl⟩ := inR_t hx
    have hb8 := hB.1.1
    have hbl := hB.1.2.2 l hl
    have es : skB B l = decide (B (6 * l + 5) = 1) := by unfold skB; rw [decide_eq_true hl, Bool.true_and]
    by_cases q : B (6 * l + 5) = 1
    · refine hR0.ref (v := 0) (t := 5) (by decide) (QC_any ?_) (QM_any ?_)
      · unfold f_X10_strike
        rw [zck_t v0, C_isLine hc hB.1, hx, zbd_s, zbr_f (by decide), hc.r3, zck_t v32, hc.2.2.1.2.1, m_get (by omega) (by omega), es, zbr_t (by rw [decide_eq_true q]; rfl), C_refuse, zbd_s]; rfl
      · unfold f_X11_strike
        rw [zck_t w0, M_good, zbd_s, M_isLine hg hB.1, hx, zbd_s, zbr_f (by decide), mr19 hg.1, w7, ix5, zck_t (zok_p (by omega) (by decide)), nI_clamp (by omega), hg.2.2.1 _ (by omega), q, zbr_f (by decide)]; rfl
    · have q0 : B (6 * l + 5) = 0 := by omega
      have h1 : A 1 ≠ 0 := fun z => by have := hB.1.z z; omega
      obtain ⟨ni, nu, hi, hp, hz⟩ := h6.2.2
      have hF1 : fr (fun a _ => 32 ≤ a ∧ a ≤ 37) σc (zpi σc 32 6 (nI (mk (skB B) 8) ||| ((1 : Int32) <<< (nI l &&& 31)))) := (fr_r _ σc).pi _ (by omega)
      obtain ⟨w1, σ1, e1, f1, f2, c1, c2, c3, c4⟩ := keepC (kd := 1) (w := l) hc hF1 hp.2.1 hp.1
      obtain ⟨w2, σ2, e2, f3, f4, hm2, t2, m1, m2, m3⟩ := noteM hm hp.2.2.1 hp.1
      have hact : act 1 l (fun k => if k = 6 * l + 5 then 1 else B k) B := by
        refine ⟨by omega, by omega, fun z => by omega, fun _ => ⟨?_, ?_, ?_, q0, if_pos rfl, fun k hk j hj hn => ?_⟩, fun z => by omega⟩
        · show l < (if 48 = 6 * l + 5 then 1 else B 48)
          rw [if_neg (by omega)]; exact hl
        · show B 48 = (if 48 = 6 * l + 5 then 1 else B 48)
          rw [if_neg (by omega)]
        · show B 49 = (if 49 = 6 * l + 5 then 1 else B 49)
          rw [if_neg (by omega)]
        · show B (6 * k + j) = (if 6 * k + j = 6 * l + 5 then 1 else B (6 * k + j))
          rw [if_neg (by omega)]
      refine ⟨1, zpi σ1 0 10 0, zpi σ2 7 (6 * l + 5) 1, ?_, ?_, ?_⟩
      · unfold f_X10_strike
        rw [zck_t v0, C_isLine hc hB.1, hx, zbd_s, zbr_f (by decide), hc.r3, zck_t v32, hc.2.2.1.2.1, m_get (by omega) (by omega), es, zbr_f (by rw [decide_eq_false q]; decide), zlt_e, zpi_2, hc.r5, zck_t (by rfl)]
        have e1 : f_X7_keep 57 1 (nI l) _ = some _ := e1
        rw [e1, zbd_s, C_grant, zbd_s]
        rfl
      · unfold f_X11_strike
        rw [zck_t w0, M_good, zbd_s, M_isLine hg hB.1, hx, zbd_s, zbr_f (by decide), mr19 hg.1, w7, ix5, zck_t (zok_p (by omega) (by decide)), nI_clamp (by omega), hg.2.2.1 _ (by omega), q0, zbr_t (by decide), e2, zbd_s, mr19 hm2.1, w7, zck_t (zok_p (by omega) (by decide)), zlt_e]
        rfl
      · refine actR (B' := fun k => if k = 6 * l + 5 then 1 else B k) (n' := nn nu) hA ?_ hT hc hm h6 h7 h1 (f1.pi _ (by unfold PA; omega)) (f3.pi _ (by unfold PB; omega)) ?_ ?_ (zpi_eq _ _ _ _) (by rw [zpi_ne _ _ (by omega)]; exact t2) ?_
        · refine ⟨⟨?_, ?_, fun k hk => ?_⟩, fun p hp => ?_⟩
          · show (if 48 = 6 * l + 5 then 1 else B 48) ≤ 8
            rw [if_neg (by omega)]; exact hb8
          · show (if 49 = 6 * l + 5 then 1 else B 49) < _
            rw [if_neg (by omega)]; exact hB.1.2.1
          · have hk : k < (if 48 = 6 * l + 5 then 1 else B 48) := hk
            rw [if_neg (by omega)] at hk
            have := hB.1.2.2 k hk
            show (if 6 * k = 6 * l + 5 then 1 else B (6 * k)) < A 3 ∧ (if 6 * k + 1 = 6 * l + 5 then 1 else B (6 * k + 1)) < A 1 ∧ (if 6 * k + 2 = 6 * l + 5 then 1 else B (6 * k + 2)) < A 4 ∧ (if 6 * k + 3 = 6 * l + 5 then 1 else B (6 * k + 3)) ≤ 1 ∧ 1 ≤ (if 6 * k + 4 = 6 * l + 5 then 1 else B (6 * k + 4)) ∧ (if 6 * k + 4 = 6 * l + 5 then 1 else B (6 * k + 4)) ≤ 9 ∧ (if 6 * k + 5 = 6 * l + 5 then 1 else B (6 * k + 5)) ≤ 1
            rw [if_neg (by omega), if_neg (by omega), if_neg (by omega), if_neg (by omega), if_neg (by omega)]
            refine ⟨this.1, this.2.1, this.2.2.1, this.2.2.2.1, this.2.2.2.2.1, this.2.2.2.2.2.1, ?_⟩
            split <;> omega
          · have := hB.2 p hp
            unfold used at this ⊢
            show sm (fun k => if (if 6 * k + 1 = 6 * l + 5 then 1 else B (6 * k + 1)) = p then (if 6 * k + 4 = 6 * l + 5 then 1 else B (6 * k + 4)) else 0) (if 48 = 6 * l + 5 then 1 else B 48) ≤ _
            rw [if_neg (by omega), sm_cong (g := fun k => if B (6 * k + 1) = p then B (6 * k + 4) else 0) (fun k hk => by rw [if_neg (show ¬ 6 * k + 1 = 6 * l + 5 by omega), if_neg (show ¬ 6 * k + 4 = 6 * l + 5 by omega)])]
            exact this
        · have g : ∀ a k, ¬ (a = 0 ∧ k = 10) → ¬ (57 ≤ a ∧ a ≤ 59) → ¬ (a = 32 ∧ k = 6) → (zpi σ1 0 10 0).1 a k = σc.1 a k := fun a k z1 z2 z3 => by rw [zpi_ne _ _ z1, f2.2 a k z2, zpi_ne _ _ z3]
          obtain ⟨i5, i6, i7, hrow⟩ := hc.2.2.1
          refine ⟨?_, ?_, ?_, fun k hk => ?_⟩
          · rw [g 32 5 (by omega) (by omega) (by omega), i5]
            show nI (B 48) = nI (if 48 = 6 * l + 5 then 1 else B 48)
            rw [if_neg (by omega)]
          · rw [zpi_ne _ _ (by omega), f2.2 32 6 (by omega), zpi_eq, m_set (by omega) (by omega)]
            congr 1
            apply mk_cong
            intro k hk
            unfold skB
            show (decide (k < B 48) && decide (B (6 * k + 5) = 1) || decide (k = l)) = (decide (k < (if 48 = 6 * l + 5 then 1 else B 48)) && decide ((if 6 * k + 5 = 6 * l + 5 then 1 else B (6 * k + 5)) = 1))
            rw [if_neg (show ¬ 48 = 6 * l + 5 by omega)]
            by_cases z : k = l
            · subst z
              rw [if_pos rfl, decide_eq_true hl]
              simp
            · rw [if_neg (by omega), decide_eq_false z, Bool.or_false]
          · rw [g 32 7 (by omega) (by omega) (by omega), i7]
            show nI (B 49) = nI (if 49 = 6 * l + 5 then 1 else B 49)
            rw [if_neg (by omega)]
          · have hk : k < (if 48 = 6 * l + 5 then 1 else B 48) := hk
            rw [if_neg (by omega)] at hk
            rw [g (32 + 1) k (by omega) (by omega) (by omega), g (32 + 2) k (by omega) (by omega) (by omega), g (32 + 3) k (by omega) (by omega) (by omega), g (32 + 4) k (by omega) (by omega) (by omega), g (32 + 5) k (by omega) (by omega) (by omega)]
            show _ = nI (if 6 * k = 6 * l + 5 then 1 else B (6 * k)) ∧ _ = nI (if 6 * k + 1 = 6 * l + 5 then 1 else B (6 * k + 1)) ∧ _ = nI (if 6 * k + 2 = 6 * l + 5 then 1 else B (6 * k + 2)) ∧ _ = nI (if 6 * k + 3 = 6 * l + 5 then 1 else B (6 * k + 3)) ∧ _ = nI (if 6 * k + 4 = 6 * l + 5 then 1 else B (6 * k + 4))
            rw [if_neg (by omega), if_neg (by omega), if_neg (by omega), if_neg (by omega), if_neg (by omega)]
            exact hrow k hk
        · intro k hk
          show _ = nI (if k = 6 * l + 5 then 1 else B k)
          by_cases z : k = 6 * l + 5
          · subst z
            rw [zpi_eq, if_pos rfl]; rfl
          · rw [zpi_ne _ _ (by omega), if_neg z]
            exact hm2.2.2.1 k hk
        · refine Past_act hp hB hact ?_ (fun q hq => ⟨?_, ?_⟩) ?_ ?_ ?_ (fun q hq k hk => ?_) (fun k hk => ?_)
          · rw [zpi_ne _ _ (by omega)]; exact c1
          · rw [zpi_ne _ _ (by omega)]; exact (c2 q hq).1
          · rw [zpi_ne _ _ (by omega)]; exact (c2 q hq).2
          · rw [zpi_ne _ _ (by omega)]; exact c3
          · rw [zpi_ne _ _ (by omega)]; exact c4
          · rw [zpi_ne _ _ (by omega)]; exact m1
          · rw [zpi_ne _ _ (by omega)]; exact m2 q hq k hk
          · rw [zpi_ne _ _ (by omega)]; exact m3 k hk
theorem O_fold : zO_fold Rel := by
  intro σc σm x hR
  have hR0 := hR
  obtain ⟨b, A, B, T, hA, hB, hT, hc, hm, h6, h7, h8, h9⟩ := hR
  have hA1 := hA.1
  have hg := hm.g
  cases hx : inR x (A 1)
  · refine hR0.ref (v := -1) (t := 1) (by decide) (QC_any ?_) (QM_any ?_)
    · unfold f_X10_fold; rw [zck_t v0, C_isPlace hc hA, hx, zbd_s, zbr_t (by rfl), C_refuse, zbd_s]
    · unfold f_X11_fold; rw [zck_t w0, M_good, zbd_s, M_isPlace hg hA, hx, zbd_s, zbr_t (by rfl), M_no, zbd_s]
  · obtain ⟨p, hpp, rfl⟩ := inR_t hx
    have h1 : A 1 ≠ 0 := by omega
    have hf31 := fold_lt hA hB.1
    have hxor : B 49 ^^^ 2 ^ p < 2 ^ A 1 := Nat.xor_lt_two_pow hB.1.2.1 (Nat.pow_lt_pow_right (by decide) hpp)
    obtain ⟨ni, nu, hi, hp, hz⟩ := h6.2.2
    have hF1 : fr (fun a _ => 32 ≤ a ∧ a ≤ 37) σc (zpi σc 32 7 (nI (B 49 ^^^ 2 ^ p))) := (fr_r _ σc).pi _ (by omega)
    obtain ⟨w1, σ1, e1, f1, f2, c1, c2, c3, c4⟩ := keepC (kd := 2) (w := p) hc hF1 hp.2.1 hp.1
    obtain ⟨w2, σ2, e2, f3, f4, hm2, t2, m1, m2, m3⟩ := noteM hm hp.2.2.1 hp.1
    have hact : act 2 p (fun k => if k = 49 then B 49 ^^^ 2 ^ p else B k) B := by
      refine ⟨by omega, by omega, fun z => by omega, fun z => by omega, fun _ => ⟨by omega, ?_, ?_, fun k hk j hj => ?_⟩⟩
      · show B 48 = (if 48 = 49 then B 49 ^^^ 2 ^ p else B 48)
        rw [if_neg (by omega)]
      · show B 49 = (if 49 = 49 then B 49 ^^^ 2 ^ p else B 49) ^^^ 2 ^ p
        rw [if_pos rfl, Nat.xor_assoc, Nat.xor_self, Nat.xor_zero]
      · have hk : k < (if 48 = 49 then B 49 ^^^ 2 ^ p else B 48) := hk
        rw [if_neg (by omega)] at hk
        have h8 := hB.1.1
        show B (6 * k + j) = (if 6 * k + j = 49 then B 49 ^^^ 2 ^ p else B (6 * k + j))
        rw [if_neg (by omega)]
    refine ⟨(nI (B 49 ^^^ 2 ^ p) >>> (nI p &&& 31)) &&& 1, zpi σ1 0 10 0, zpi σ2 7 49 (nI (B 49 ^^^ 2 ^ p)), ?_, ?_, ?_⟩
    · unfold f_X10_fold
      rw [zck_t v0, C_isPlace hc hA, hx, zbd_s, zbr_f (by decide), hc.r3, zck_t v32, hc.2.2.1.2.2.1, nI_shl1 p (by omega), nI_xor, zlt_e, zpi_2, hc.r5, zck_t (by rfl)]
      have e1 : f_X7_keep 57 2 (nI p) _ = some _ := e1
      rw [e1, zbd_s, f1.1, hc.r3, zck_t v32, f2.2 32 7 (by omega), zpi_eq, C_grant, zbd_s]
    · unfold f_X11_fold
      rw [zck_t w0, M_good, zbd_s, M_isPlace hg hA, hx, zbd_s, zbr_f (by decide), e2, zbd_s, mr19 hm2.1, w7, zck_t (by decide), zck_t (by decide), cl49, hm2.2.2.1 49 (by omega), nI_shl1 p (by omega), nI_xor, zlt_e, zpi_2, mr19 hm2.1, w7, zck_t (by decide), zpi_eq]
    · have h8 := hB.1.1
      refine actR (B' := fun k => if k = 49 then B 49 ^^^ 2 ^ p else B k) (n' := nn nu) hA ?_ hT hc hm h6 h7 h1 (f1.pi _ (by unfold PA; omega)) (f3.pi _ (by unfold PB; omega)) ?_ ?_ (zpi_eq _ _ _ _) (by rw [zpi_ne _ _ (by omega)]; exact t2) ?_
      · refine ⟨⟨?_, ?_, fun k hk => ?_⟩, fun q hq => ?_⟩
        · show (if 48 = 49 then B 49 ^^^ 2 ^ p else B 48) ≤ 8
          rw [if_neg (by omega)]; exact h8
        · show (if 49 = 49 then B 49 ^^^ 2 ^ p else B 49) < _
          rw [if_pos rfl]; exact hxor
        · have hk : k < (if 48 = 49 then B 49 ^^^ 2 ^ p else B 48) := hk
          rw [if_neg (by omega)] at hk
          show (if 6 * k = 49 then B 49 ^^^ 2 ^ p else B (6 * k)) < A 3 ∧ (if 6 * k + 1 = 49 then B 49 ^^^ 2 ^ p else B (6 * k + 1)) < A 1 ∧ (if 6 * k + 2 = 49 then B 49 ^^^ 2 ^ p else B (6 * k + 2)) < A 4 ∧ (if 6 * k + 3 = 49 then B 49 ^^^ 2 ^ p else B (6 * k + 3)) ≤ 1 ∧ 1 ≤ (if 6 * k + 4 = 49 then B 49 ^^^ 2 ^ p else B (6 * k + 4)) ∧ (if 6 * k + 4 = 49 then B 49 ^^^ 2 ^ p else B (6 * k + 4)) ≤ 9 ∧ (if 6 * k + 5 = 49 then B 49 ^^^ 2 ^ p else B (6 * k + 5)) ≤ 1
          rw [if_neg (by omega), if_neg (by omega), if_neg (by omega), if_neg (by omega), if_neg (by omega), if_neg (by omega)]
          exact hB.1.2.2 k hk
        · have := hB.2 q hq
          unfold used at this ⊢
          show sm (fun k => if (if 6 * k + 1 = 49 then B 49 ^^^ 2 ^ p else B (6 * k + 1)) = q then (if 6 * k + 4 = 49 then B 49 ^^^ 2 ^ p else B (6 * k + 4)) else 0) (if 48 = 49 then B 49 ^^^ 2 ^ p else B 48) ≤ _
          rw [if_neg (show ¬ 48 = 49 by omega), sm_cong (g := fun k => if B (6 * k + 1) = q then B (6 * k + 4) else 0) (fun k hk => by rw [if_neg (show ¬ 6 * k + 1 = 49 by omega), if_neg (show ¬ 6 * k + 4 = 49 by omega)])]
          exact this
      · have g : ∀ a k, ¬ (a = 0 ∧ k = 10) → ¬ (57 ≤ a ∧ a ≤ 59) → ¬ (a = 32 ∧ k = 7) → (zpi σ1 0 10 0).1 a k = σc.1 a k := fun a k z1 z2 z3 => by rw [zpi_ne _ _ z1, f2.2 a k z2, zpi_ne _ _ z3]
        obtain ⟨i5, i6, i7, hrow⟩ := hc.2.2.1
        refine ⟨?_, ?_, ?_, fun k hk => ?_⟩
        · rw [g 32 5 (by omega) (by omega) (by omega), i5]
          show nI (B 48) = nI (if 48 = 49 then B 49 ^^^ 2 ^ p else B 48)
          rw [if_neg (by omega)]
        · rw [g 32 6 (by omega) (by omega) (by omega), i6]
          have em : mk (skB B) 8 = mk (skB (fun k => if k = 49 then B 49 ^^^ 2 ^ p else B k)) 8 := by
            apply mk_cong
            intro k hk
            unfold skB
            show _ = (decide (k < (if 48 = 49 then B 49 ^^^ 2 ^ p else B 48)) && decide ((if 6 * k + 5 = 49 then B 49 ^^^ 2 ^ p else B (6 * k + 5)) = 1))
            rw [if_neg (show ¬ 48 = 49 by omega), if_neg (show ¬ 6 * k + 5 = 49 by omega)]
          rw [em]
        · rw [zpi_ne _ _ (by omega), f2.2 32 7 (by omega), zpi_eq]
          show _ = nI (if 49 = 49 then B 49 ^^^ 2 ^ p else B 49)
          rw [if_pos rfl]
        · have hk : k < (if 48 = 49 then B 49 ^^^ 2 ^ p else B 48) := hk
          rw [if_neg (by omega)] at hk
          rw [g (32 + 1) k (by omega) (by omega) (by omega), g (32 + 2) k (by omega) (by omega) (by omega), g (32 + 3) k (by omega) (by omega) (by omega), g (32 + 4) k (by omega) (by omega) (by omega), g (32 + 5) k (by omega) (by omega) (by omega)]
          show _ = nI (if 6 * k = 49 then B 49 ^^^ 2 ^ p else B (6 * k)) ∧ _ = nI (if 6 * k + 1 = 49 then B 49 ^^^ 2 ^ p else B (6 * k + 1)) ∧ _ = nI (if 6 * k + 2 = 49 then B 49 ^^^ 2 ^ p else B (6 * k + 2)) ∧ _ = nI (if 6 * k + 3 = 49 then B 49 ^^^ 2 ^ p else B (6 * k + 3)) ∧ _ = nI (if 6 * k + 4 = 49 then B 49 ^^^ 2 ^ p else B (6 * k + 4))
          rw [if_neg (by omega), if_neg (by omega), if_neg (by omega), if_neg (by omega), if_neg (by omega)]
          exact hrow k hk
      · intro k hk
        show _ = nI (if k = 49 then B 49 ^^^ 2 ^ p else B k)
        by_cases z : k = 49
        · subst z
          rw [zpi_eq, if_pos rfl]
        · rw [zpi_ne _ _ (by omega), if_neg z]
          exact hm2.2.2.1 k hk
      · refine Past_act hp hB hact ?_ (fun q hq => ⟨?_, ?_⟩) ?_ ?_ ?_ (fun q hq k hk => ?_) (fun k hk => ?_)
        · rw [zpi_ne _ _ (by omega)]; exact c1
        · rw [zpi_ne _ _ (by omega)]; exact (c2 q hq).1
        · rw [zpi_ne _ _ (by omega)]; exact (c2 q hq).2
        · rw [zpi_ne _ _ (by omega)]; exact c3
        · rw [zpi_ne _ _ (by omega)]; exact c4
        · rw [zpi_ne _ _ (by omega)]; exact m1
        · rw [zpi_ne _ _ (by omega)]; exact m2 q hq k hk
        · rw [zpi_ne _ _ (by omega)]; exact m3 k hk
