/-! led -/
def rI (r : Option Int32) : Int32 := match r with
  | some v => v
  | none => 0
def rT (r : Option Int32) : Int32 := match r with
  | some _ => 0
  | none => 1
theorem Pl_n {σ τ : zS} (h : fr Pl σ τ) (v : Int32) : fr Pq σ (zpi τ 0 0 v) := (h.mo Pl_Pq).pi _ (by unfold Pq; omega)
theorem O_led (σc σm : zS) (x : Int32) (hR : Rel σc σm) : ∃ (r : Option Int32) (σm1 : zS), f_X10_led 0 x σc = some (r, σc) ∧ f_X11_led 0 x σm = some (rI r, σm1) ∧ σm1.1 0 0 = rT r ∧ Rel σc σm1 := by
  obtain ⟨b, A, B, T, hA, hB, hT, hc, hm, hrest, hFil, h10, h12⟩ := hR
  have fin : ∀ {τ : zS} (v : Int32), fr Pl σm τ → Rel σc (zpi τ 0 0 v) := by
    intro τ v hF
    have F2 := Pl_n hF v
    refine ⟨b, A, B, T, hA, hB, hT, hc, hm.f F2, hrest.f (fun _ _ _ => rfl) (fun a k z => F2.2 a k (by unfold Pq; omega)), hFil, ?_, ?_⟩
    · rw [zpi_ne _ _ (by omega), hF.2 0 11 (by unfold Pl; omega)]; exact h10
    · rw [zpi_ne _ _ (by omega), hF.2 0 10 (by unfold Pl; omega)]; exact h12
  have hk := hc.k
  have r08 : σc.2 0 8 = Lc b := by rw [hc.1, (RCs b).1]; cases b <;> rfl
  have r03 : σc.2 0 3 = 32 := by rw [hc.1]; simp only [RCs]
  have hA4 := hA.1.2.2.2.2.1
  have key : ∀ d k f g, k + d = A 4 → d < f → d < g → ∀ (x2 : Int32) (τ : zS), fr Pl σm τ → ∃ (r : Option Int32) (τ' : zS), f_X10_led_13 0 f x (nI (mk (rdB B) 8)) x2 (nI k) σc = some (r, σc) ∧ f_X11_led_4 0 g x x2 (nI k) τ = some (rI r, zpi τ' 0 0 (rT r)) ∧ fr Pl σm τ' := by
    intro d
    induction d with
    | zero =>
      intro k f g hkd hf hg x2 τ hF
      obtain ⟨f, rfl⟩ : ∃ y, f = y + 1 := ⟨f - 1, by omega⟩
      obtain ⟨g, rfl⟩ : ∃ y, g = y + 1 := ⟨g - 1, by omega⟩
      have hk4 : k = A 4 := by omega
      subst hk4
      have mU' := hm.l hF
      refine ⟨none, τ, ?_, ?_, hF⟩
      · rw [f_X10_led_13, r08, zck_t hk.1, hc.2.1.1.2.2.2.2.1, zbr_t (Int32.le_refl _)]
      · rw [f_X11_led_4]
        by_cases z : τ.1 0 14 = 0
        · rw [zbr_t z, zlt_e]; rfl
        · rw [zbr_f z, mr15 mU'.1, zck_t (by decide), cl4, mU'.2.1 4 (by omega), zbr_t (Int32.le_refl _), zlt_e]; rfl
    | succ d ih =>
      intro k f g hkd hf hg x2 τ hF
      obtain ⟨f, rfl⟩ : ∃ y, f = y + 1 := ⟨f - 1, by omega⟩
      obtain ⟨g, rfl⟩ : ∃ y, g = y + 1 := ⟨g - 1, by omega⟩
      have mU' := hm.l hF
      have hp : 0 < A 1 := by
        by_cases z : A 1 = 0
        · have := (hA.2.2.2.2.2.2.2.2.2 z).2.2.2.1
          omega
        · omega
      have h14 : ¬ τ.1 0 14 = 0 := by rw [mU'.2.2.2.2.2, decide_eq_true hp]; decide
      obtain ⟨v, υ, e1, e2, e3⟩ := M_doneNow mU' hA hB.1 (m := k) (by omega)
      have cv := C_vrr hc hA hB.1 (m := k) (by omega)
      have F2 := hF.tr e3
      have ev : v = oI (vr A B k (rd B)) := e2
      have pc : f_X10_led_13 0 (f + 1) x (nI (mk (rdB B) 8)) x2 (nI k) σc = zbr (v = (-2 : Int32)) (zbr (x2 = x) (some (some (nI k), σc)) (f_X10_led_13 0 f x (nI (mk (rdB B) 8)) (x2 + 1) (nI (k + 1)) σc)) (f_X10_led_13 0 f x (nI (mk (rdB B) 8)) x2 (nI (k + 1)) σc) := by
        rw [f_X10_led_13, r08, zck_t hk.1, hc.2.1.1.2.2.2.2.1, zbr_f (nI_ge (by omega) (by omega)), cv, zbd_s, ← ev, zlt_e]
        unfold f_X10_led_48
        rw [zlt_e, zlt_e, nI_1]
      have pm : f_X11_led_4 0 (g + 1) x x2 (nI k) τ = zbr (v = (-2 : Int32)) (zbr (x2 = x) (some (nI k, zpi υ 0 0 0)) (f_X11_led_4 0 g x (x2 + 1) (nI (k + 1)) υ)) (f_X11_led_4 0 g x x2 (nI (k + 1)) υ) := by
        rw [f_X11_led_4, zbr_f h14, mr15 mU'.1, zck_t (by decide), cl4, mU'.2.1 4 (by omega), zbr_f (nI_ge (by omega) (by omega)), e1, zbd_s, zlt_e, zlt_e]
        unfold f_X11_led_49
        rw [zlt_e, zlt_e, nI_1]
      rw [pc, pm]
      by_cases z1 : v = (-2 : Int32)
      · rw [zbr_t z1, zbr_t z1]
        by_cases z2 : x2 = x
        · rw [zbr_t z2, zbr_t z2]
          exact ⟨some (nI k), υ, rfl, rfl, F2⟩
        · rw [zbr_f z2, zbr_f z2]
          exact ih (k + 1) f g (by omega) (by omega) (by omega) (x2 + 1) υ F2
      · rw [zbr_f z1, zbr_f z1]
        exact ih (k + 1) f g (by omega) (by omega) (by omega) x2 υ F2
  obtain ⟨r, τ', q1, q2, q3⟩ := key (A 4) 0 FU FU (by omega) (by unfold FU; omega) (by unfold FU; omega) 0 σm (fr_r _ _)
  refine ⟨r, zpi τ' 0 0 (rT r), ?_, ?_, zpi_eq _ _ _ _, fin _ q3⟩
  · unfold f_X10_led
    rw [zck_t v0, r03, zck_t v32, C_readN hc hA hB.1, zbd_s, zlt_e, zlt_e, zlt_e]
    exact q1
  · unfold f_X11_led
    rw [zck_t w0, zlt_e, zlt_e]
    exact q2
