/-! the reference goes through all fillings -/
section SK
variable {A B T : Nat → Nat} {σ : zS}
theorem fnd_step (A T : Nat → Nat) (w : Int32) {n : Nat} (hn : n < 1000) : fnd A T w (n + 1) = if fitq A T n = true ∧ nI (ct (fitq A T) n) = w then some n else fnd A T w n := by
  unfold fnd
  rw [fi]
  cases e : fi (fun f => fitq A T f && decide (nI (ct (fitq A T) f) = w)) n with
  | some k =>
    obtain ⟨h1, h2, h3⟩ := fi_iff.mp e
    have h2 : (fitq A T k && decide (nI (ct (fitq A T) k) = w)) = true := h2
    rw [Bool.and_eq_true, decide_eq_true_eq] at h2
    have hno : ¬ (fitq A T n = true ∧ nI (ct (fitq A T) n) = w) := by
      rintro ⟨-, z⟩
      have := ct_str h2.1 h1
      have l1 := ct_le (fitq A T) n
      rw [← h2.2] at z
      have := (nI_eq (by omega) (by omega)).mp z
      omega
    rw [if_neg hno]
  | none =>
    show (if (fitq A T n && decide (nI (ct (fitq A T) n) = w)) = true then some n else none) = _
    by_cases q : fitq A T n = true ∧ nI (ct (fitq A T) n) = w
    · rw [if_pos q, if_pos (by rw [q.1, decide_eq_true q.2]; rfl)]
    · rw [if_neg q, if_neg]
      intro z
      rw [Bool.and_eq_true, decide_eq_true_eq] at z
      exact q z
theorem M_seekFits (h : mU A B T D0 σ) (hA : vA A) (hT : vB A T) (w : Int32) : zH (f_X11_seekFits 0 w σ) (fun x σ' => x = oN (fnd A T w (filN A)) ∧ fr Pfs σ σ' ∧ σ'.1 0 37 = nI (ct (fitq A T) (filN A)) ∧ ∀ k, k < A 6 → ∀ s, s < 9 → σ'.1 17 (9 * k + s) = nI (tly A T k s (filN A))) := by
  have hA1 := hA.1
  have hfil := filN_b hA
  unfold f_X11_seekFits
  refine zH_ck w0 (zH_lt (zH_lt (zH_lt ?_)))
  -- the loop over the fillings
  have main : ∀ n, n ≤ filN A → ∀ f, filN A - n < f → ∀ τ, fr Pfs σ τ → τ.1 0 37 = nI (ct (fitq A T) n) → (∀ k, k < A 6 → ∀ s, s < 9 → τ.1 17 (9 * k + s) = nI (tly A T k s n)) → zH (f_X11_seekFits_30 0 f w (oN (fnd A T w n)) (nI n) τ) (fun x σ' => x = oN (fnd A T w (filN A)) ∧ fr Pfs σ σ' ∧ σ'.1 0 37 = nI (ct (fitq A T) (filN A)) ∧ ∀ k, k < A 6 → ∀ s, s < 9 → σ'.1 17 (9 * k + s) = nI (tly A T k s (filN A))) := by
    refine zup (P := fun f n => ∀ τ, fr Pfs σ τ → τ.1 0 37 = nI (ct (fitq A T) n) → (∀ k, k < A 6 → ∀ s, s < 9 → τ.1 17 (9 * k + s) = nI (tly A T k s n)) → zH (f_X11_seekFits_30 0 f w (oN (fnd A T w n)) (nI n) τ) _) (filN A) ?_ ?_
    · intro f τ hF h37 h17
      have ht := h.f (hF.mo Pfs_Pq)
      rw [f_X11_seekFits_30]
      exact zH_eq (M_fillings ht hA) (zH_t (Int32.le_refl _) (zH_ok ⟨rfl, hF, h37, h17⟩))
    · intro f n hn ih τ hF h37 h17
      have ht := h.f (hF.mo Pfs_Pq)
      have hcl := ct_le (fitq A T) n
      rw [fnd_step A T w (show n < 1000 by omega), ct] at ih
      have tst : ∀ k s, tly A T k s (n + 1) = tly A T k s n + (if (fitq A T n && decide (digN A n k = s)) = true then 1 else 0) := fun k s => rfl
      rw [f_X11_seekFits_30]
      refine zH_eq (M_fillings ht hA) (zH_f (nI_ge hn (by omega)) (zH_call (M_wrongBy ht hA (V := fun m => vd (outr A D0) (lfill A T m n (A 6))) (fun m υ hm hu => M_doneFilled (ht.l hu) hA hT (by omega) (by omega)) (fun m k e => by have := vd_le (lfill_vL hA hT m n _ (Nat.le_refl _)) e; omega)) ?_))
      rintro x υ ⟨rfl, hu⟩
      have hu2 : fr Pfs σ υ := hF.tr (hu.mo (fun a k z => Or.inl z))
      have hU := h.f (hu2.mo Pfs_Pq)
      have u37 : υ.1 0 37 = nI (ct (fitq A T) n) := by rw [hu.2 0 37 (by unfold Pl; omega)]; exact h37
      have u17 : ∀ k, k < A 6 → ∀ s, s < 9 → υ.1 17 (9 * k + s) = nI (tly A T k s n) := fun k hk s hs => by rw [hu.2 17 _ (by unfold Pl; omega)]; exact h17 k hk s hs
      by_cases ef : fitq A T n = true
      · refine zH_t (fit_fi hA |>.mpr ef) ?_
        -- it is counted
        have cnt : ∀ x2 : Int32, x2 = oN (if fitq A T n = true ∧ nI (ct (fitq A T) n) = w then some n else fnd A T w n) → zH (f_X11_seekFits_61 0 (f_X11_seekFits_30 0 f) w x2 (nI n) υ) (fun x σ' => x = oN (fnd A T w (filN A)) ∧ fr Pfs σ σ' ∧ σ'.1 0 37 = nI (ct (fitq A T) (filN A)) ∧ ∀ k, k < A 6 → ∀ s, s < 9 → σ'.1 17 (9 * k + s) = nI (tly A T k s (filN A))) := by
          intro x2 hx2
          unfold f_X11_seekFits_61
          refine zH_lt (zH_lt ?_)
          rw [u37, nI_1]
          suffices key : ∀ k, k ≤ A 6 → ∀ g, A 6 - k < g → ∀ ω, fr Pfs σ ω → ω.1 0 37 = nI (ct (fitq A T) n + 1) → (∀ j, j < k → ∀ s, s < 9 → ω.1 17 (9 * j + s) = nI (tly A T j s (n + 1))) → (∀ j, k ≤ j → j < A 6 → ∀ s, s < 9 → ω.1 17 (9 * j + s) = nI (tly A T j s n)) → zH (f_X11_seekFits_74 0 (f_X11_seekFits_30 0 f) g w x2 (nI n) (nI k) ω) (fun x σ' => x = oN (fnd A T w (filN A)) ∧ fr Pfs σ σ' ∧ σ'.1 0 37 = nI (ct (fitq A T) (filN A)) ∧ ∀ k, k < A 6 → ∀ s, s < 9 → σ'.1 17 (9 * k + s) = nI (tly A T k s (filN A))) from
            key 0 (Nat.zero_le _) FU (by unfold FU; omega) _ (hu2.pi _ (Or.inr (Or.inr ⟨rfl, rfl⟩))) (zpi_eq _ _ _ _) (fun j hj => absurd hj (Nat.not_lt_zero j)) (fun j _ hj s hs => by rw [zpi_ne _ _ (by omega)]; exact u17 j hj s hs)
          refine zup (P := fun g k => ∀ ω, fr Pfs σ ω → ω.1 0 37 = nI (ct (fitq A T) n + 1) → (∀ j, j < k → ∀ s, s < 9 → ω.1 17 (9 * j + s) = nI (tly A T j s (n + 1))) → (∀ j, k ≤ j → j < A 6 → ∀ s, s < 9 → ω.1 17 (9 * j + s) = nI (tly A T j s n)) → zH (f_X11_seekFits_74 0 (f_X11_seekFits_30 0 f) g w x2 (nI n) (nI k) ω) _) (A 6) ?_ ?_
          · intro g ω hw w37 a1 a2
            have hW := h.f (hw.mo Pfs_Pq)
            rw [f_X11_seekFits_74, mr15 hW.1, w3, cl6, hW.2.1 6 (by omega)]
            refine zH_ck (by decide) (zH_t (Int32.le_refl _) ?_)
            unfold f_X11_seekFits_114
            refine zH_lt ?_
            rw [nI_1, hx2]
            exact ih ω hw (by rw [w37, ef, if_pos rfl]) a1
          · intro g k hk ih2 ω hw w37 a1 a2
            have hW := h.f (hw.mo Pfs_Pq)
            have hd := digN_lt A n k
            rw [f_X11_seekFits_74, mr15 hW.1, w3, cl6, hW.2.1 6 (by omega), mr36 hW.1, w17]
            refine zH_ck (by decide) (zH_f (nI_ge hk (by omega)) (zH_eq (M_choiceOf hW hA (by omega) hk) ?_))
            rw [px9, nI_clamp (by omega), a2 k (Nat.le_refl _) hk _ (by omega), nI_1]
            refine zH_ck (zok_p (by omega) (by decide)) (zH_ck (zok_p (by omega) (by decide)) (zH_lt (zH_lt ?_)))
            rw [nI_1]
            refine ih2 _ (hw.pi _ (Or.inr (Or.inl rfl))) (by rw [zpi_ne _ _ (by omega)]; exact w37) (fun j hj s hs => ?_) (fun j hj1 hj2 s hs => ?_)
            · by_cases z : j = k
              · subst z
                rw [tst, ef, Bool.true_and]
                by_cases y : digN A n j = s
                · subst y
                  rw [zpi_eq, decide_eq_true rfl, if_pos rfl]
                · rw [zpi_ne _ _ (by omega), decide_eq_false y, if_neg (by decide), Nat.add_zero]
                  exact a2 j (Nat.le_refl _) hk s hs
              · rw [zpi_ne _ _ (by omega)]
                exact a1 j (by omega) s hs
            · rw [zpi_ne _ _ (by omega)]
              exact a2 j (by omega) hj2 s hs
        rw [u37]
        by_cases ew : nI (ct (fitq A T) n) = w
        · exact zH_t ew (zH_lt (cnt _ (by rw [if_pos ⟨ef, ew⟩]; rfl)))
        · exact zH_f ew (cnt _ (by rw [if_neg (fun z => ew z.2)]))
      · refine zH_f (fun z => ef (fit_fi hA |>.mp z)) ?_
        unfold f_X11_seekFits_114
        refine zH_lt ?_
        rw [nI_1]
        have efb : fitq A T n = false := Bool.eq_false_iff.mpr ef
        rw [if_neg (show ¬ (fitq A T n = true ∧ nI (ct (fitq A T) n) = w) from fun z => ef z.1)] at ih
        refine ih υ hu2 (by rw [u37, efb, if_neg (by decide), Nat.add_zero]) (fun k hk s hs => ?_)
        rw [tst, efb, Bool.false_and, if_neg (by decide), Nat.add_zero]
        exact u17 k hk s hs
  suffices key : ∀ k, k ≤ 27 → ∀ f, 27 - k < f → ∀ τ, fr Pfs σ τ → τ.1 0 37 = nI 0 → (∀ j, j < k → τ.1 17 j = 0) → zH (f_X11_seekFits_9 0 f w (-1) (nI k) τ) (fun x σ' => x = oN (fnd A T w (filN A)) ∧ fr Pfs σ σ' ∧ σ'.1 0 37 = nI (ct (fitq A T) (filN A)) ∧ ∀ k, k < A 6 → ∀ s, s < 9 → σ'.1 17 (9 * k + s) = nI (tly A T k s (filN A))) from
    key 0 (Nat.zero_le _) FU (by unfold FU; omega) _ ((fr_r _ σ).pi _ (Or.inr (Or.inr ⟨rfl, rfl⟩))) (zpi_eq _ _ _ _) (fun j hj => absurd hj (Nat.not_lt_zero j))
  refine zup (P := fun f k => ∀ τ, fr Pfs σ τ → τ.1 0 37 = nI 0 → (∀ j, j < k → τ.1 17 j = 0) → zH (f_X11_seekFits_9 0 f w (-1) (nI k) τ) _) 27 ?_ ?_
  · intro f τ hF h37 h17
    rw [f_X11_seekFits_9]
    refine zH_t (by decide) (zH_lt ?_)
    exact main 0 (Nat.zero_le _) FU (by unfold FU; omega) τ hF h37 (fun k hk s hs => h17 _ (by omega))
  · intro f k hk ih τ hF h37 h17
    have ht := h.f (hF.mo Pfs_Pq)
    rw [f_X11_seekFits_9, mr36 ht.1, w17, nI_clamp (by omega)]
    refine zH_f (show ¬ (27 : Int32) ≤ nI k from nI_ge (b := 27) hk (by decide)) (zH_ck (zok_p hk (by decide)) (zH_lt (zH_lt ?_)))
    rw [nI_1]
    refine ih _ (hF.pi _ (Or.inr (Or.inl rfl))) (by rw [zpi_ne _ _ (by omega)]; exact h37) (fun j hj => ?_)
    by_cases z : j = k
    · subst z; exact zpi_eq _ _ _ _
    · rw [zpi_ne _ _ (by omega)]
      exact h17 j (by omega)
end SK
