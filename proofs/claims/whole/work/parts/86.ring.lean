/-! rings of places: the mathematics, and the class's side -/
def rs2 (o : Nat → Nat → Bool) (np p a : Nat) : Option Nat := fi (fun r => o a r && o r p) np
def rs1 (o : Nat → Nat → Bool) (np p : Nat) : Option Nat := fi (fun q => o p q && (rs2 o np p q).isSome) np
/-- a walk from p that comes back to p has a ring of three through p -/
theorem ring3 {o : Nat → Nat → Bool} {np p k : Nat} {W : Nat → Nat} (ht : tourn o np) (h0 : W 0 = p) (hl : ∀ j, j < k → W j < np) (hs : ∀ j, j + 1 < k → o (W j) (W (j + 1)) = true) (hp : ∀ j, 1 ≤ j → j < k → W j ≠ p) (h3 : 3 ≤ k) (hc : o (W (k - 1)) p = true) : rs1 o np p ≠ none := by
  have hpn : p < np := by rw [← h0]; exact hl 0 (by omega)
  have key : ∀ i, 1 ≤ i → i < k → o (W i) p = true → ∃ q r, q < np ∧ r < np ∧ o p q = true ∧ o q r = true ∧ o r p = true := by
    intro i
    induction i with
    | zero => intro h; omega
    | succ i ih =>
      intro _ hi hoi
      by_cases hi1 : i = 0
      · subst hi1
        have h1 := hs 0 (by omega)
        rw [h0] at h1
        have := ht.1 p (W 1) hpn (hl 1 (by omega)) (fun e => hp 1 (by omega) (by omega) e.symm)
        have hoi : o (W 1) p = true := hoi
        rw [h1, hoi] at this
        cases this
      · cases e : o (W i) p
        · have hne := hp i (by omega) (by omega)
          have := ht.1 p (W i) hpn (hl i (by omega)) (fun e => hne e.symm)
          rw [e] at this
          exact ⟨W i, W (i + 1), hl i (by omega), hl (i + 1) hi, this, hs i hi, hoi⟩
        · exact ih (by omega) (by omega) e
  obtain ⟨q, r, h1, h2, h4, h5, h6⟩ := key (k - 1) (by omega) (by omega) hc
  intro hn
  have a1 := fi_none.mp hn q h1
  have a1 : (o p q && (rs2 o np p q).isSome) = false := a1
  rw [h4, Bool.true_and] at a1
  cases e : rs2 o np p q with
  | some x => rw [e] at a1; cases a1
  | none =>
    have := fi_none.mp e r h2
    have this : (o q r && o r p) = false := this
    rw [h5, h6] at this
    cases this
section RC3
variable {a np : Nat} {o : Nat → Nat → Bool} {σ : zS}
theorem oC.bit (h : oC a o np σ) (hn : np ≤ 6) {p q : Nat} (hp : p < np) (hq : q < np) : (σ.1 (a + 1) p >>> (nI q &&& 31)) &&& 1 = bI (o p q) := by
  rw [h.2.2 p hp, m_get (by omega) (by omega)]
  show bI (decide (q < np) && o p q) = _
  rw [decide_eq_true hq, Bool.true_and]
theorem C_third (h : oC a o np σ) (hn : np ≤ 6) {p q : Nat} (hp : p < np) (hq : q < np) : f_X5_thirdOfRing a (nI p) (nI q) σ = some (oN (rs2 o np p q), σ) := by
  have h0 := h
  obtain ⟨⟨hc, hr, hw⟩, h1, hrow⟩ := h
  unfold f_X5_thirdOfRing
  rw [zck_t hc, zlt_e]
  refine zup (P := fun f k => (∀ j, j < k → (o q j && o j p) = false) → f_X5_thirdOfRing_2 a f (nI p) (nI q) (nI k) σ = _) np ?_ ?_ 0 (Nat.zero_le _) FU (by unfold FU; omega) (fun j hj => absurd hj (Nat.not_lt_zero j))
  · intro f hall
    rw [f_X5_thirdOfRing_2, h1, zbr_t (Int32.le_refl _), show rs2 o np p q = none from fi_none.mpr hall]
    rfl
  · intro f k hk ih hall
    have nxt : (o q k && o k p) = false → f_X5_thirdOfRing_40 a (f_X5_thirdOfRing_2 a f) (nI p) (nI q) (nI k) σ = some (oN (rs2 o np p q), σ) := by
      intro e
      unfold f_X5_thirdOfRing_40
      rw [zlt_e, nI_1]
      exact ih (fun j hj => by
        by_cases z : j = k
        · subst z; exact e
        · exact hall j (by omega))
    rw [f_X5_thirdOfRing_2, h1, zbr_f (nI_ge hk (by omega)), hr, hw, zck_t (zok_p (by omega) (by decide)), nI_clamp (by omega), h0.bit hn hq hk, zck_t (zok_p (by omega) (by decide)), nI_clamp (by omega), h0.bit hn hk hp]
    cases e1 : o q k
    · rw [zbr_f (by decide)]
      exact nxt (by rw [e1]; rfl)
    · rw [zbr_t (by rfl)]
      cases e2 : o k p
      · rw [zbr_f (by decide)]
        exact nxt (by rw [e2, Bool.and_false])
      · rw [zbr_t (by rfl), show rs2 o np p q = some k from fi_iff.mpr ⟨hk, by rw [e1, e2]; rfl, hall⟩]
        rfl
theorem C_second (h : oC a o np σ) (hn : np ≤ 6) {p : Nat} (hp : p < np) : f_X5_secondOfRing a (nI p) σ = some (oN (rs1 o np p), σ) := by
  have h0 := h
  obtain ⟨⟨hc, hr, hw⟩, h1, hrow⟩ := h
  unfold f_X5_secondOfRing
  rw [zck_t hc, zlt_e]
  refine zup (P := fun f k => (∀ j, j < k → (o p j && (rs2 o np p j).isSome) = false) → f_X5_secondOfRing_2 a f (nI p) (nI k) σ = _) np ?_ ?_ 0 (Nat.zero_le _) FU (by unfold FU; omega) (fun j hj => absurd hj (Nat.not_lt_zero j))
  · intro f hall
    rw [f_X5_secondOfRing_2, h1, zbr_t (Int32.le_refl _), show rs1 o np p = none from fi_none.mpr hall]
    rfl
  · intro f k hk ih hall
    have nxt : (o p k && (rs2 o np p k).isSome) = false → f_X5_secondOfRing_36 a (f_X5_secondOfRing_2 a f) (nI p) (nI k) σ = some (oN (rs1 o np p), σ) := by
      intro e
      unfold f_X5_secondOfRing_36
      rw [zlt_e, nI_1]
      exact ih (fun j hj => by
        by_cases z : j = k
        · subst z; exact e
        · exact hall j (by omega))
    rw [f_X5_secondOfRing_2, h1, zbr_f (nI_ge hk (by omega)), hr, hw, zck_t (zok_p (by omega) (by decide)), nI_clamp (by omega), h0.bit hn hp hk]
    cases e1 : o p k
    · rw [zbr_f (by decide)]
      exact nxt (by rw [e1]; rfl)
    · rw [zbr_t (by rfl), C_third h0 hn hp hk, zbd_s]
      cases e2 : rs2 o np p k with
      | none =>
        rw [zbr_t (by rfl)]
        exact nxt (by rw [e1, e2]; rfl)
      | some r =>
        have hr2 := (fi_iff.mp e2).1
        rw [zbr_f (by exact nI_m1 (by omega)), show rs1 o np p = some k from fi_iff.mpr ⟨hk, by rw [e1, e2]; rfl, hall⟩]
        rfl
theorem C_hasRing (h : oC a o np σ) (hn : np ≤ 6) : f_X5_hasRing a σ = some (bI (an (fun p => (rs1 o np p).isSome) np), σ) := by
  have h0 := h
  obtain ⟨⟨hc, hr, hw⟩, h1, hrow⟩ := h
  unfold f_X5_hasRing
  rw [zck_t hc, zlt_e]
  refine zup (P := fun f k => (∀ j, j < k → (rs1 o np j).isSome = false) → f_X5_hasRing_2 a f (nI k) σ = _) np ?_ ?_ 0 (Nat.zero_le _) FU (by unfold FU; omega) (fun j hj => absurd hj (Nat.not_lt_zero j))
  · intro f hall
    rw [f_X5_hasRing_2, h1, zbr_t (Int32.le_refl _), an_false.mpr hall]
    rfl
  · intro f k hk ih hall
    rw [f_X5_hasRing_2, h1, zbr_f (nI_ge hk (by omega)), C_second h0 hn hk, zbd_s]
    cases e : rs1 o np k with
    | none =>
      rw [zbr_t (by rfl), zlt_e, nI_1]
      exact ih (fun j hj => by
        by_cases z : j = k
        · subst z; rw [e]; rfl
        · exact hall j (by omega))
    | some q =>
      have hq := (fi_iff.mp e).1
      rw [zbr_f (by exact nI_m1 (by omega)), an_iff.mpr ⟨k, hk, by rw [e]; rfl⟩]
      rfl
end RC3
/-- the order is arranged: a is the order's cell, c the letter's -/
theorem C_arrange {a c : Nat} {A : Nat → Nat} {σ : zS} (D : Nat → Bool) (hA : vA A) (ho : oK a σ.2) (hk : lK c σ.2) (hg : gA c A σ.1) (hac : a + 1 < c ∨ c + 18 < a) : zH (f_X5_arrange a c (nI (mk D 6)) σ) (fun _ σ' => fr (fun b _ => b = a ∨ b = a + 1) σ σ' ∧ oJ a (outr A D) (A 1) σ'.1) := by
  have hA1 := hA.1
  have htr := outr_t D hA
  obtain ⟨hc, hr, hw⟩ := ho
  unfold f_X5_arrange
  refine zH_ck hc (zH_ck hk.1 (zH_lt (zH_lt ?_)))
  rw [hg.1.2.1]
  -- what stays
  have K : ∀ τ, fr (fun b _ => b = a ∨ b = a + 1) σ τ → gA c A τ.1 ∧ lK c τ.2 ∧ oK a τ.2 := fun τ hF => ⟨hg.f (fun b k h1 h2 => hF.2 b k (by omega)), by rw [hF.1]; exact hk, by rw [hF.1]; exact ⟨hc, hr, hw⟩⟩
  -- the over rules
  have third : ∀ τ, fr (fun b _ => b = a ∨ b = a + 1) σ τ → τ.1 a 1 = nI (A 1) → (∀ p, p < A 1 → τ.1 (a + 1) p = nI (mk (fun q => decide (q < A 1) && outrK A D 0 p q) 6)) → zH (f_X5_arrange_80 a FU c (nI (mk D 6)) 0 τ) (fun _ σ' => fr (fun b _ => b = a ∨ b = a + 1) σ σ' ∧ oJ a (outr A D) (A 1) σ'.1) := by
    intro τ hF h1 h0
    suffices key : ∀ k, k ≤ A 2 → ∀ f, A 2 - k < f → ∀ τ, fr (fun b _ => b = a ∨ b = a + 1) σ τ → τ.1 a 1 = nI (A 1) → (∀ p, p < A 1 → τ.1 (a + 1) p = nI (mk (fun q => decide (q < A 1) && outrK A D k p q) 6)) → zH (f_X5_arrange_80 a f c (nI (mk D 6)) (nI k) τ) (fun _ σ' => fr (fun b _ => b = a ∨ b = a + 1) σ σ' ∧ oJ a (outr A D) (A 1) σ'.1) from key 0 (Nat.zero_le _) FU (by unfold FU; omega) τ hF h1 h0
    refine zup (P := fun f k => ∀ τ, fr (fun b _ => b = a ∨ b = a + 1) σ τ → τ.1 a 1 = nI (A 1) → (∀ p, p < A 1 → τ.1 (a + 1) p = nI (mk (fun q => decide (q < A 1) && outrK A D k p q) 6)) → zH (f_X5_arrange_80 a f c (nI (mk D 6)) (nI k) τ) _) (A 2) ?_ ?_
    · intro f τ hF h1 h0
      obtain ⟨g1, g2, g3⟩ := K τ hF
      rw [f_X5_arrange_80, g1.1.2.2.1]
      exact zH_ck g2.1 (zH_t (Int32.le_refl _) (zH_ok ⟨hF, h1, h0⟩))
    · intro f k hk2 ih τ hF h1 h0
      obtain ⟨g1, g2, g3⟩ := K τ hF
      have hov := hA.2.2.2.1 k hk2
      rw [f_X5_arrange_80, g1.1.2.2.1, m_get (by omega) (by omega), g2.2.1.2.2.1, g2.2.1.2.2.2.1, g2.2.2.1.2.2.1, g2.2.2.1.2.2.2.1, g3.2.1, g3.2.2, nI_clamp (by omega), (g1.2.2.1 k hk2).1, (g1.2.2.1 k hk2).2]
      refine zH_ck g2.1 (zH_f (nI_ge hk2 (by omega)) ?_)
      unfold f_X5_arrange_142
      cases hD : D k
      · refine zH_t rfl (zH_ck (zok_p (by omega) (by decide)) (zH_lt (zH_ck (zok_p (by omega) (by decide)) (zH_lt (zH_ck (zok_p (by omega) (by decide)) (zH_ck (zok_p (by omega) (by decide)) (zH_lt ?_)))))))
        rw [zpi_2, g3.2.1, g3.2.2, nI_clamp (by omega), nI_clamp (by omega), h0 _ hov.1]
        refine zH_ck (zok_p (by omega) (by decide)) (zH_ck (zok_p (by omega) (by decide)) (zH_lt (zH_lt ?_)))
        rw [nI_1, zpi_ne _ _ (fun e => hov.2.2 e.2.symm), h0 _ hov.2.1, m_set (by omega) (by omega), m_bit (n := 6) (by omega) (by omega), m_andn (by omega)]
        refine ih _ ((hF.pi _ (Or.inr rfl)).pi _ (Or.inr rfl)) ?_ ?_
        · rw [zpi_ne _ _ (by omega), zpi_ne _ _ (by omega)]; exact h1
        · intro p hp
          have stepov : ∀ x y, ov A D (k + 1) x y = (ov A D k x y || (decide (A (22 + 2 * k) = x) && decide (A (23 + 2 * k) = y))) := fun x y => by
            show (ov A D k x y || (!D k && decide (A (22 + 2 * k) = x) && decide (A (23 + 2 * k) = y))) = _
            rw [hD, Bool.not_false, Bool.true_and]
          have e1 : ov A D (k + 1) (A (22 + 2 * k)) (A (23 + 2 * k)) = true := by rw [stepov, decide_eq_true rfl, decide_eq_true rfl]; simp
          have e2 : ov A D (k + 1) (A (23 + 2 * k)) (A (22 + 2 * k)) = false := ov_not hA (by omega) e1
          by_cases q1 : p = A (23 + 2 * k)
          · subst q1
            rw [zpi_eq]
            congr 1
            apply mk_cong
            intro q hq
            unfold outrK
            by_cases z : q = A (22 + 2 * k)
            · subst z
              rw [e1, e2]
              simp
            · have e3 : ov A D (k + 1) (A (23 + 2 * k)) q = ov A D k (A (23 + 2 * k)) q := by
                rw [stepov, decide_eq_false (fun e => hov.2.2 e), Bool.false_and, Bool.or_false]
              have e4 : ov A D (k + 1) q (A (23 + 2 * k)) = ov A D k q (A (23 + 2 * k)) := by
                rw [stepov, decide_eq_false (fun e => z e.symm), Bool.false_and, Bool.or_false]
              rw [e3, e4, decide_eq_false z]
              simp
          · rw [zpi_ne _ _ (fun e => q1 e.2)]
            by_cases q2 : p = A (22 + 2 * k)
            · subst q2
              rw [zpi_eq]
              congr 1
              apply mk_cong
              intro q hq
              unfold outrK
              by_cases z : q = A (23 + 2 * k)
              · subst z
                rw [e1, decide_eq_true rfl, decide_eq_true hov.2.1]
                simp
              · have e3 : ov A D (k + 1) (A (22 + 2 * k)) q = ov A D k (A (22 + 2 * k)) q := by
                  rw [stepov, decide_eq_false (show ¬ A (23 + 2 * k) = q from fun e => z e.symm), Bool.and_false, Bool.or_false]
                have e4 : ov A D (k + 1) q (A (22 + 2 * k)) = ov A D k q (A (22 + 2 * k)) := by
                  rw [stepov, decide_eq_false (show ¬ A (23 + 2 * k) = A (22 + 2 * k) from fun e => hov.2.2 e.symm), Bool.and_false, Bool.or_false]
                rw [e3, e4, decide_eq_false z]
                simp
            · rw [zpi_ne _ _ (fun e => q2 e.2), h0 p hp]
              congr 1
              apply mk_cong
              intro q hq
              unfold outrK
              have e3 : ov A D (k + 1) p q = ov A D k p q := by
                rw [stepov, decide_eq_false (show ¬ A (22 + 2 * k) = p from fun e => q2 e.symm), Bool.false_and, Bool.or_false]
              have e4 : ov A D (k + 1) q p = ov A D k q p := by
                rw [stepov, decide_eq_false (show ¬ A (23 + 2 * k) = p from fun e => q1 e.symm), Bool.and_false, Bool.or_false]
              rw [e3, e4]
      · refine zH_f (by decide) (zH_lt ?_)
        rw [nI_1]
        refine ih τ hF h1 (fun p hp => ?_)
        rw [h0 p hp]
        congr 1
        apply mk_cong
        intro q hq
        have stepov : ∀ x y, ov A D (k + 1) x y = ov A D k x y := fun x y => by
          show (ov A D k x y || (!D k && decide (A (22 + 2 * k) = x) && decide (A (23 + 2 * k) = y))) = _
          rw [hD]; simp
        unfold outrK
        rw [stepov, stepov]
  -- the ranks
  have inner : ∀ (H : Nat → Int32 → Int32 → zS → Option (Unit × zS)) (p : Nat) (τ : zS) (Q : Unit → zS → Prop), p < A 1 → fr (fun b _ => b = a ∨ b = a + 1) σ τ → τ.1 a 1 = nI (A 1) → τ.1 (a + 1) p = 0 → (∀ υ, fr (fun b _ => b = a ∨ b = a + 1) σ υ → υ.1 a 1 = nI (A 1) → (∀ q, q ≠ p → υ.1 (a + 1) q = τ.1 (a + 1) q) → υ.1 (a + 1) p = nI (mk (fun q => decide (q < A 1) && outrK A D 0 p q) 6) → zH (H c (nI (mk D 6)) (nI (p + 1)) υ) Q) → zH (f_X5_arrange_28 a H FU c (nI (mk D 6)) (nI p) 0 τ) Q := by
    intro H p τ Q hp hF h1 h0 hH
    have e6 : mk (fun q => decide (q < A 1) && outrK A D 0 p q) 6 = mk (outrK A D 0 p) (A 1) := (mk_w (by omega)).symm
    rw [e6] at hH
    suffices key : ∀ k, k ≤ A 1 → ∀ f, A 1 - k < f → ∀ υ, fr (fun b _ => b = a ∨ b = a + 1) σ υ → υ.1 a 1 = nI (A 1) → (∀ q, q ≠ p → υ.1 (a + 1) q = τ.1 (a + 1) q) → υ.1 (a + 1) p = nI (mk (outrK A D 0 p) k) → zH (f_X5_arrange_28 a H f c (nI (mk D 6)) (nI p) (nI k) υ) Q from key 0 (Nat.zero_le _) FU (by unfold FU; omega) τ hF h1 (fun _ _ => rfl) h0
    refine zup (P := fun f k => ∀ υ, fr (fun b _ => b = a ∨ b = a + 1) σ υ → υ.1 a 1 = nI (A 1) → (∀ q, q ≠ p → υ.1 (a + 1) q = τ.1 (a + 1) q) → υ.1 (a + 1) p = nI (mk (outrK A D 0 p) k) → zH (f_X5_arrange_28 a H f c (nI (mk D 6)) (nI p) (nI k) υ) _) (A 1) ?_ ?_
    · intro f υ b1 b2 b3 b4
      rw [f_X5_arrange_28, b2]
      refine zH_t (Int32.le_refl _) (zH_lt ?_)
      rw [nI_1]
      exact hH υ b1 b2 b3 b4
    · intro f k hk2 ih υ b1 b2 b3 b4
      obtain ⟨g1, g2, g3⟩ := K υ b1
      have p1 := hA.2.1 p hp
      have p2 := hA.2.1 k hk2
      rw [f_X5_arrange_28, b2, g2.2.1.1, g2.2.2.1.1, nI_clamp (by omega), nI_clamp (by omega), (g1.2.1 p hp).1, (g1.2.1 k hk2).1, g3.2.1, g3.2.2, b4]
      refine zH_f (nI_ge hk2 (by omega)) (zH_ck g2.1 (zH_ck (zok_p (by omega) (by decide)) (zH_ck (zok_p (by omega) (by decide)) ?_)))
      unfold f_X5_arrange_66
      have e0 : outrK A D 0 p k = decide (A (10 + 2 * k) < A (10 + 2 * p)) := by
        show (false || (!false && decide (A (10 + 2 * k) < A (10 + 2 * p)))) = _
        simp
      by_cases q : A (10 + 2 * p) ≤ A (10 + 2 * k)
      · refine zH_t (nI_le q (by omega)) (zH_lt ?_)
        rw [nI_1]
        exact ih υ b1 b2 b3 (by rw [mk_sf (by rw [e0]; exact decide_eq_false (by omega))]; exact b4)
      · refine zH_f (nI_ge (by omega) (by omega)) (zH_ck (zok_p (by omega) (by decide)) (zH_ck (zok_p (by omega) (by decide)) (zH_lt (zH_lt ?_))))
        rw [nI_1, m_step (by omega) (by rw [e0]; exact decide_eq_true (by omega))]
        exact ih _ (b1.pi _ (Or.inr rfl)) (by rw [zpi_ne _ _ (by omega)]; exact b2) (fun q hq => by rw [zpi_ne _ _ (fun e => hq e.2)]; exact b3 q hq) (zpi_eq _ _ _ _)
  suffices key : ∀ p, p ≤ A 1 → ∀ f, A 1 - p < f → ∀ τ, fr (fun b _ => b = a ∨ b = a + 1) σ τ → τ.1 a 1 = nI (A 1) → (∀ q, q < p → τ.1 (a + 1) q = nI (mk (fun r => decide (r < A 1) && outrK A D 0 q r) 6)) → zH (f_X5_arrange_10 a f c (nI (mk D 6)) (nI p) τ) (fun _ σ' => fr (fun b _ => b = a ∨ b = a + 1) σ σ' ∧ oJ a (outr A D) (A 1) σ'.1) from key 0 (Nat.zero_le _) FU (by unfold FU; omega) _ ((fr_r _ σ).pi _ (Or.inl rfl)) (zpi_eq _ _ _ _) (fun q hq => absurd hq (Nat.not_lt_zero q))
  refine zup (P := fun f p => ∀ τ, fr (fun b _ => b = a ∨ b = a + 1) σ τ → τ.1 a 1 = nI (A 1) → (∀ q, q < p → τ.1 (a + 1) q = nI (mk (fun r => decide (r < A 1) && outrK A D 0 q r) 6)) → zH (f_X5_arrange_10 a f c (nI (mk D 6)) (nI p) τ) _) (A 1) ?_ ?_
  · intro f τ hF h1 h0
    rw [f_X5_arrange_10, h1]
    exact zH_t (Int32.le_refl _) (zH_lt (third τ hF h1 h0))
  · intro f p hp ih τ hF h1 h0
    obtain ⟨g1, g2, g3⟩ := K τ hF
    rw [f_X5_arrange_10, h1, g3.2.1, g3.2.2, nI_clamp (by omega)]
    refine zH_f (nI_ge hp (by omega)) (zH_ck (zok_p (by omega) (by decide)) (zH_lt (zH_lt ?_)))
    refine inner _ p _ _ hp (hF.pi _ (Or.inr rfl)) (by rw [zpi_ne _ _ (by omega)]; exact h1) (zpi_eq _ _ _ _) (fun υ c1 c2 c3 c4 => ?_)
    refine ih υ c1 c2 (fun q hq => ?_)
    by_cases z : q = p
    · subst z; exact c4
    · rw [c3 q z, zpi_ne _ _ (fun e => z e.2)]
      exact h0 q (by omega)
