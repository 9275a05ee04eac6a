/-! foot, rests, rest, fault, where, size, trouble -/
section G9
variable {b : Bool} {A B T : Nat → Nat} {D : Nat → Bool} {σ : zS}
theorem QC_any {ρ : Type} {f : Option (ρ × zS)} {v : ρ} {t : Int32} (h : f = some (v, zpi σ 0 10 t)) : QC f σ v t := ⟨_, _, h, rfl, (fr_r Pc σ).pi _ (by unfold Pc; omega), zpi_eq _ _ _ _⟩
theorem QM_any {ρ : Type} {f : Option (ρ × zS)} {v : ρ} {t : Int32} (h : f = some (v, zpi (gd σ) 0 11 t)) : QM f σ v t := ⟨_, _, h, rfl, (gd_f σ).pi _ (by unfold Pq; omega), zpi_eq _ _ _ _⟩
theorem C_isInk (x : Int32) (σ : zS) : f_X10_isInk x σ = some (bI (inR x 10), σ) := by
  unfold f_X10_isInk
  by_cases q : x < 0
  · rw [zbr_t q, inR_neg q]; rfl
  · obtain ⟨j, hj, rfl⟩ := nI_of q
    rw [zbr_f q, inR_n hj]
    by_cases h : j < 10
    · rw [zbr_f (show ¬ (9 : Int32) < nI j from nI_nlt (a := 9) (by omega) (by decide)), decide_eq_true h]; rfl
    · rw [zbr_t (show (9 : Int32) < nI j from nI_lt (a := 9) (by omega) hj), decide_eq_false h]; rfl
def ftv (x : Int32) (a b : Bool) : Int32 := if a then (if b then 1 else 4 - x) else (if b then 0 else 3)
theorem C_footOf (x : Int32) (a b : Bool) (σ : zS) : f_X10_footOf x (bI a) (bI b) σ = some (ftv x a b, σ) := by cases a <;> cases b <;> rfl
theorem M_footOf (x : Int32) (a b : Bool) (σ : zS) : f_X11_footOf x (bI a) (bI b) σ = some (ftv x a b, σ) := by cases a <;> cases b <;> rfl
theorem CM_foot (x y z : Int32) (σ τ : zS) : ∃ v, f_X10_footOf x y z σ = some (v, σ) ∧ f_X11_footOf x y z τ = some (v, τ) := by
  unfold f_X10_footOf f_X11_footOf
  by_cases q : y = 0
  · by_cases r : z = 0
    · exact ⟨3, by rw [zbr_t q, zbr_t r], by rw [zbr_t q, zbr_t r]⟩
    · exact ⟨0, by rw [zbr_t q, zbr_f r], by rw [zbr_t q, zbr_f r]⟩
  · by_cases r : z = 0
    · exact ⟨4 - x, by rw [zbr_f q, zbr_t r], by rw [zbr_f q, zbr_t r]⟩
    · exact ⟨1, by rw [zbr_f q, zbr_f r], by rw [zbr_f q, zbr_f r]⟩
def isr (x : Int32) (a b : Bool) : Bool := !decide (ftv x a b < ftv x (!a) b) && !decide (ftv x b a < ftv x (!b) a)
def rsq (x : Int32) (k : Nat) : Bool := isr x (decide (2 ≤ k)) (decide (k % 2 = 1))
def rv (k : Nat) : Nat := 10 * (k / 2) + k % 2
theorem C_isRest (x : Int32) (a b : Bool) (σ : zS) : f_X10_isRest x (bI a) (bI b) σ = some (bI (isr x a b), σ) := by
  have h16 : ∀ (s : Int32), s = bI (!a) → f_X10_isRest_16 x (bI a) (bI b) (ftv x a b) x s σ = some (bI (isr x a b), σ) := by
    intro s hs
    subst hs
    unfold f_X10_isRest_16 isr
    rw [C_footOf, zbd_s]
    by_cases q : ftv x a b < ftv x (!a) b
    · rw [zbr_t q, decide_eq_true q]; rfl
    · rw [zbr_f q, C_footOf, zbd_s, decide_eq_false q, Bool.not_false, Bool.true_and]
      have h39 : ∀ (s : Int32), s = bI (!b) → f_X10_isRest_39 (bI a) (ftv x b a) x s σ = some (bI (!decide (ftv x b a < ftv x (!b) a)), σ) := by
        intro s hs
        subst hs
        unfold f_X10_isRest_39
        rw [C_footOf, zbd_s]
        by_cases q : ftv x b a < ftv x (!b) a
        · rw [zbr_t q, decide_eq_true q]; rfl
        · rw [zbr_f q, decide_eq_false q]; rfl
      cases b
      · rw [zbr_t (by rfl)]; exact h39 1 rfl
      · rw [zbr_f (by decide)]; exact h39 0 rfl
  unfold f_X10_isRest
  rw [C_footOf, zbd_s]
  cases a
  · rw [zbr_t (by rfl)]; exact h16 1 rfl
  · rw [zbr_f (by decide)]; exact h16 0 rfl
theorem C_rests_step (H : Int32 → Int32 → Int32 → zS → Option (Int32 × zS)) (x y : Int32) {k : Nat} (hk : k < 4) (σ : zS) : zbr (nI k < (2 : Int32)) (f_X10_rests_46 0 H x y (nI k) x 0 σ) (f_X10_rests_46 0 H x y (nI k) x 1 σ) = if rsq x k then H x (y + 1) (nI (k + 1)) σ else H x y (nI (k + 1)) σ := by
  have hk4 : k = 0 ∨ k = 1 ∨ k = 2 ∨ k = 3 := by omega
  rcases hk4 with rfl | rfl | rfl | rfl
  · have h : f_X10_isRest x 0 0 σ = some (bI (rsq x 0), σ) := C_isRest x false false σ
    unfold f_X10_rests_46 f_X10_rests_58 f_X10_rests_67
    rw [zbr_t (by decide), zck_t (by decide), zbr_f (by decide), h, zbd_s]
    cases rsq x 0
    · rw [zbr_t (by rfl), zlt_e, nI_1]; rfl
    · rw [zbr_f (by decide), zlt_e, zlt_e, nI_1]; rfl
  · have h : f_X10_isRest x 0 1 σ = some (bI (rsq x 1), σ) := C_isRest x false true σ
    unfold f_X10_rests_46 f_X10_rests_58 f_X10_rests_67
    rw [zbr_t (by decide), zck_t (by decide), zbr_t (by decide), h, zbd_s]
    cases rsq x 1
    · rw [zbr_t (by rfl), zlt_e, nI_1]; rfl
    · rw [zbr_f (by decide), zlt_e, zlt_e, nI_1]; rfl
  · have h : f_X10_isRest x 1 0 σ = some (bI (rsq x 2), σ) := C_isRest x true false σ
    unfold f_X10_rests_46 f_X10_rests_58 f_X10_rests_67
    rw [zbr_f (by decide), zck_t (by decide), zbr_f (by decide), h, zbd_s]
    cases rsq x 2
    · rw [zbr_t (by rfl), zlt_e, nI_1]; rfl
    · rw [zbr_f (by decide), zlt_e, zlt_e, nI_1]; rfl
  · have h : f_X10_isRest x 1 1 σ = some (bI (rsq x 3), σ) := C_isRest x true true σ
    unfold f_X10_rests_46 f_X10_rests_58 f_X10_rests_67
    rw [zbr_f (by decide), zck_t (by decide), zbr_t (by decide), h, zbd_s]
    cases rsq x 3
    · rw [zbr_t (by rfl), zlt_e, nI_1]; rfl
    · rw [zbr_f (by decide), zlt_e, zlt_e, nI_1]; rfl
theorem C_rest_step (H : Int32 → Int32 → zS → Option (Int32 × zS)) (x : Int32) {k : Nat} (hk : k < 4) (σ : zS) : zbr (nI k < (2 : Int32)) (f_X10_rest_44 0 H x (nI k) x 0 σ) (f_X10_rest_44 0 H x (nI k) x 1 σ) = if rsq x k then some (nI (rv k), zpi σ 0 10 0) else H x (nI (k + 1)) σ := by
  have hk4 : k = 0 ∨ k = 1 ∨ k = 2 ∨ k = 3 := by omega
  rcases hk4 with rfl | rfl | rfl | rfl
  · have h : f_X10_isRest x 0 0 σ = some (bI (rsq x 0), σ) := C_isRest x false false σ
    unfold f_X10_rest_44 f_X10_rest_56
    rw [zbr_t (by decide), zck_t (by decide), zbr_f (by decide), h, zbd_s]
    cases rsq x 0
    · rw [zbr_t (by rfl), zlt_e, nI_1]; rfl
    · rw [zbr_f (by decide), zck_t (by decide), zck_t (by decide), C_grant, zbd_s, show (10 : Int32) * (nI 0 / 2) + (nI 0 - nI 0 / 2 * 2) = nI (rv 0) from by decide]; rfl
  · have h : f_X10_isRest x 0 1 σ = some (bI (rsq x 1), σ) := C_isRest x false true σ
    unfold f_X10_rest_44 f_X10_rest_56
    rw [zbr_t (by decide), zck_t (by decide), zbr_t (by decide), h, zbd_s]
    cases rsq x 1
    · rw [zbr_t (by rfl), zlt_e, nI_1]; rfl
    · rw [zbr_f (by decide), zck_t (by decide), zck_t (by decide), C_grant, zbd_s, show (10 : Int32) * (nI 1 / 2) + (nI 1 - nI 1 / 2 * 2) = nI (rv 1) from by decide]; rfl
  · have h : f_X10_isRest x 1 0 σ = some (bI (rsq x 2), σ) := C_isRest x true false σ
    unfold f_X10_rest_44 f_X10_rest_56
    rw [zbr_f (by decide), zck_t (by decide), zbr_f (by decide), h, zbd_s]
    cases rsq x 2
    · rw [zbr_t (by rfl), zlt_e, nI_1]; rfl
    · rw [zbr_f (by decide), zck_t (by decide), zck_t (by decide), C_grant, zbd_s, show (10 : Int32) * (nI 2 / 2) + (nI 2 - nI 2 / 2 * 2) = nI (rv 2) from by decide]; rfl
  · have h : f_X10_isRest x 1 1 σ = some (bI (rsq x 3), σ) := C_isRest x true true σ
    unfold f_X10_rest_44 f_X10_rest_56
    rw [zbr_f (by decide), zck_t (by decide), zbr_t (by decide), h, zbd_s]
    cases rsq x 3
    · rw [zbr_t (by rfl), zlt_e, nI_1]; rfl
    · rw [zbr_f (by decide), zck_t (by decide), zck_t (by decide), C_grant, zbd_s, show (10 : Int32) * (nI 3 / 2) + (nI 3 - nI 3 / 2 * 2) = nI (rv 3) from by decide]; rfl
theorem M_rests_step (H : Int32 → Int32 → Int32 → zS → Option (Int32 × zS)) (x y : Int32) {k : Nat} (hk : k < 4) (σ : zS) : zbr (nI k ≤ (1 : Int32)) (f_X11_seekRests_25 0 H x y (nI k) 0 σ) (f_X11_seekRests_25 0 H x y (nI k) 1 σ) = if rsq x k then H x (y + 1) (nI (k + 1)) (if y = 0 then zpi σ 0 38 (nI (rv k)) else σ) else H x y (nI (k + 1)) σ := by
  have hk4 : k = 0 ∨ k = 1 ∨ k = 2 ∨ k = 3 := by omega
  rcases hk4 with rfl | rfl | rfl | rfl
  · have h1 : f_X11_footOf x 1 0 σ = some (ftv x true false, σ) := M_footOf x true false σ
    have h2 : f_X11_footOf x 0 0 σ = some (ftv x false false, σ) := M_footOf x false false σ
    have h3 : f_X11_footOf x 1 0 σ = some (ftv x true false, σ) := M_footOf x true false σ
    have h4 : f_X11_footOf x 0 0 σ = some (ftv x false false, σ) := M_footOf x false false σ
    have hq : rsq x 0 = (!decide (ftv x false false < ftv x true false) && !decide (ftv x false false < ftv x true false)) := rfl
    unfold f_X11_seekRests_25 f_X11_seekRests_39 f_X11_seekRests_52 f_X11_seekRests_79 f_X11_seekRests_116 f_X11_seekRests_119
    rw [zbr_t (by decide), zlt_e, zck_t (by decide), zbr_f (by decide), zlt_e, zbr_t (by decide), h1, zbd_s, h2, zbd_s]
    by_cases q1 : ftv x false false < ftv x true false
    · have e : rsq x 0 = false := by rw [hq]; simp [q1]
      rw [zbr_t q1, e, zlt_e, nI_1]; rfl
    · rw [zbr_f q1, zbr_t (by decide), h3, zbd_s, h4, zbd_s]
      by_cases q2 : ftv x false false < ftv x true false
      · have e : rsq x 0 = false := by rw [hq]; simp [q2]
        rw [zbr_f (fun z => absurd q2 (Int32.not_lt.mpr z)), e, zlt_e, nI_1]; rfl
      · have e : rsq x 0 = true := by rw [hq]; simp only [q1, q2]; rfl
        rw [zbr_t (Int32.not_lt.mp q2), e, if_pos rfl]
        by_cases q3 : y = 0
        · rw [zbr_t q3, if_pos q3, zck_t (by decide), zck_t (by decide), zlt_e, zlt_e, zlt_e, nI_1, show (10 : Int32) * (nI 0 / 2) + (nI 0 - nI 0 / 2 * 2) = nI (rv 0) from by decide]
        · rw [zbr_f q3, if_neg q3, zlt_e, zlt_e, nI_1]
  · have h1 : f_X11_footOf x 1 1 σ = some (ftv x true true, σ) := M_footOf x true true σ
    have h2 : f_X11_footOf x 0 1 σ = some (ftv x false true, σ) := M_footOf x false true σ
    have h3 : f_X11_footOf x 0 0 σ = some (ftv x false false, σ) := M_footOf x false false σ
    have h4 : f_X11_footOf x 1 0 σ = some (ftv x true false, σ) := M_footOf x true false σ
    have hq : rsq x 1 = (!decide (ftv x false true < ftv x true true) && !decide (ftv x true false < ftv x false false)) := rfl
    unfold f_X11_seekRests_25 f_X11_seekRests_39 f_X11_seekRests_52 f_X11_seekRests_79 f_X11_seekRests_116 f_X11_seekRests_119
    rw [zbr_t (by decide), zlt_e, zck_t (by decide), zbr_t (by decide), zlt_e, zbr_t (by decide), h1, zbd_s, h2, zbd_s]
    by_cases q1 : ftv x false true < ftv x true true
    · have e : rsq x 1 = false := by rw [hq]; simp [q1]
      rw [zbr_t q1, e, zlt_e, nI_1]; rfl
    · rw [zbr_f q1, zbr_f (by decide), h3, zbd_s, h4, zbd_s]
      by_cases q2 : ftv x true false < ftv x false false
      · have e : rsq x 1 = false := by rw [hq]; simp [q2]
        rw [zbr_f (fun z => absurd q2 (Int32.not_lt.mpr z)), e, zlt_e, nI_1]; rfl
      · have e : rsq x 1 = true := by rw [hq]; simp only [q1, q2]; rfl
        rw [zbr_t (Int32.not_lt.mp q2), e, if_pos rfl]
        by_cases q3 : y = 0
        · rw [zbr_t q3, if_pos q3, zck_t (by decide), zck_t (by decide), zlt_e, zlt_e, zlt_e, nI_1, show (10 : Int32) * (nI 1 / 2) + (nI 1 - nI 1 / 2 * 2) = nI (rv 1) from by decide]
        · rw [zbr_f q3, if_neg q3, zlt_e, zlt_e, nI_1]
  · have h1 : f_X11_footOf x 0 0 σ = some (ftv x false false, σ) := M_footOf x false false σ
    have h2 : f_X11_footOf x 1 0 σ = some (ftv x true false, σ) := M_footOf x true false σ
    have h3 : f_X11_footOf x 1 1 σ = some (ftv x true true, σ) := M_footOf x true true σ
    have h4 : f_X11_footOf x 0 1 σ = some (ftv x false true, σ) := M_footOf x false true σ
    have hq : rsq x 2 = (!decide (ftv x true false < ftv x false false) && !decide (ftv x false true < ftv x true true)) := rfl
    unfold f_X11_seekRests_25 f_X11_seekRests_39 f_X11_seekRests_52 f_X11_seekRests_79 f_X11_seekRests_116 f_X11_seekRests_119
    rw [zbr_f (by decide), zlt_e, zck_t (by decide), zbr_f (by decide), zlt_e, zbr_f (by decide), h1, zbd_s, h2, zbd_s]
    by_cases q1 : ftv x true false < ftv x false false
    · have e : rsq x 2 = false := by rw [hq]; simp [q1]
      rw [zbr_t q1, e, zlt_e, nI_1]; rfl
    · rw [zbr_f q1, zbr_t (by decide), h3, zbd_s, h4, zbd_s]
      by_cases q2 : ftv x false true < ftv x true true
      · have e : rsq x 2 = false := by rw [hq]; simp [q2]
        rw [zbr_f (fun z => absurd q2 (Int32.not_lt.mpr z)), e, zlt_e, nI_1]; rfl
      · have e : rsq x 2 = true := by rw [hq]; simp only [q1, q2]; rfl
        rw [zbr_t (Int32.not_lt.mp q2), e, if_pos rfl]
        by_cases q3 : y = 0
        · rw [zbr_t q3, if_pos q3, zck_t (by decide), zck_t (by decide), zlt_e, zlt_e, zlt_e, nI_1, show (10 : Int32) * (nI 2 / 2) + (nI 2 - nI 2 / 2 * 2) = nI (rv 2) from by decide]
        · rw [zbr_f q3, if_neg q3, zlt_e, zlt_e, nI_1]
  · have h1 : f_X11_footOf x 0 1 σ = some (ftv x false true, σ) := M_footOf x false true σ
    have h2 : f_X11_footOf x 1 1 σ = some (ftv x true true, σ) := M_footOf x true true σ
    have h3 : f_X11_footOf x 0 1 σ = some (ftv x false true, σ) := M_footOf x false true σ
    have h4 : f_X11_footOf x 1 1 σ = some (ftv x true true, σ) := M_footOf x true true σ
    have hq : rsq x 3 = (!decide (ftv x true true < ftv x false true) && !decide (ftv x true true < ftv x false true)) := rfl
    unfold f_X11_seekRests_25 f_X11_seekRests_39 f_X11_seekRests_52 f_X11_seekRests_79 f_X11_seekRests_116 f_X11_seekRests_119
    rw [zbr_f (by decide), zlt_e, zck_t (by decide), zbr_t (by decide), zlt_e, zbr_f (by decide), h1, zbd_s, h2, zbd_s]
    by_cases q1 : ftv x true true < ftv x false true
    · have e : rsq x 3 = false := by rw [hq]; simp [q1]
      rw [zbr_t q1, e, zlt_e, nI_1]; rfl
    · rw [zbr_f q1, zbr_f (by decide), h3, zbd_s, h4, zbd_s]
      by_cases q2 : ftv x true true < ftv x false true
      · have e : rsq x 3 = false := by rw [hq]; simp [q2]
        rw [zbr_f (fun z => absurd q2 (Int32.not_lt.mpr z)), e, zlt_e, nI_1]; rfl
      · have e : rsq x 3 = true := by rw [hq]; simp only [q1, q2]; rfl
        rw [zbr_t (Int32.not_lt.mp q2), e, if_pos rfl]
        by_cases q3 : y = 0
        · rw [zbr_t q3, if_pos q3, zck_t (by decide), zck_t (by decide), zlt_e, zlt_e, zlt_e, nI_1, show (10 : Int32) * (nI 3 / 2) + (nI 3 - nI 3 / 2 * 2) = nI (rv 3) from by decide]
        · rw [zbr_f q3, if_neg q3, zlt_e, zlt_e, nI_1]
theorem ct_fi {P : Nat → Bool} : ∀ {n : Nat}, ct P n = 0 ↔ fi P n = none
  | 0 => ⟨fun _ => rfl, fun _ => rfl⟩
  | n + 1 => by
    have ih := ct_fi (P := P) (n := n)
    rw [ct, fi]
    cases e : fi P n with
    | some k =>
      have : ct P n ≠ 0 := fun z => by rw [ih.mp z] at e; cases e
      exact ⟨fun z => absurd z (by omega), fun z => by cases z⟩
    | none =>
      rw [ih.mpr e]
      cases P n <;> simp
def P38 (a k : Nat) : Prop := a = 0 ∧ k = 38
theorem P38_Pq (a k : Nat) (h : P38 a k) : Pq a k := by unfold P38 at h; unfold Pq; omega
theorem M_seekRests (x : Int32) (σ : zS) : zH (f_X11_seekRests 0 x σ) (fun r σ' => r = nI (ct (rsq x) 4) ∧ fr P38 σ σ' ∧ σ'.1 0 38 = oI ((fi (rsq x) 4).map rv)) := by
  unfold f_X11_seekRests
  refine zH_ck w0 (zH_lt (zH_lt (zH_lt ?_)))
  suffices key : ∀ k, k ≤ 4 → ∀ f, 4 - k < f → ∀ τ, fr P38 σ τ → τ.1 0 38 = oI ((fi (rsq x) k).map rv) → zH (f_X11_seekRests_10 0 f x (nI (ct (rsq x) k)) (nI k) τ) (fun r σ' => r = nI (ct (rsq x) 4) ∧ fr P38 σ σ' ∧ σ'.1 0 38 = oI ((fi (rsq x) 4).map rv)) from key 0 (Nat.zero_le _) FU (by unfold FU; omega) _ ((fr_r _ σ).pi _ ⟨rfl, rfl⟩) (zpi_eq _ _ _ _)
  refine zup (P := fun f k => ∀ τ, fr P38 σ τ → τ.1 0 38 = oI ((fi (rsq x) k).map rv) → zH (f_X11_seekRests_10 0 f x (nI (ct (rsq x) k)) (nI k) τ) _) 4 ?_ ?_
  · intro f τ hF h38
    rw [f_X11_seekRests_10]
    exact zH_t (by decide) (zH_ok ⟨rfl, hF, h38⟩)
  · intro f k hk ih τ hF h38
    have hct := ct_le (rsq x) k
    rw [f_X11_seekRests_10]
    refine zH_f (show ¬ (4 : Int32) ≤ nI k from nI_ge (b := 4) hk (by decide)) ?_
    rw [M_rests_step _ _ _ hk]
    rw [ct, fi] at ih
    cases e : rsq x k
    · rw [e, if_neg (by decide), Nat.add_zero] at ih
      rw [if_neg (by decide)]
      refine ih τ hF ?_
      rw [h38]
      cases fi (rsq x) k <;> rfl
    · rw [e, if_pos rfl] at ih
      rw [if_pos rfl, nI_1]
      by_cases z : ct (rsq x) k = 0
      · rw [if_pos (by rw [z]; rfl)]
        refine ih _ (hF.pi _ ⟨rfl, rfl⟩) ?_
        rw [zpi_eq, ct_fi.mp z]
        rfl
      · rw [if_neg (nI_ne0 (by omega) (by omega))]
        refine ih τ hF ?_
        rw [h38]
        cases e2 : fi (rsq x) k with
        | none => exact absurd (ct_fi.mpr e2) z
        | some j => rfl
theorem M_pre (h : mU A B T D σ) (x : Int32) : f_X11_in x 0 9 (gd σ) = some (bI (inR x 10), gd σ) ∧ ∀ y, f_X11_why 0 ((gd σ).1 0 14) (bI y) (gd σ) = some ((if decide (0 < A 1) then (if y then 0 else 2) else 1 : Int32), gd σ) := by
  refine ⟨M_inc x (n := 9) (by decide) _, fun y => ?_⟩
  rw [h.g.2.2.2.2.2, M_why]
end G9
theorem O_foot : zO_foot Rel := by
  intro σc σm x y z w hR
  refine hR.q (fun b A B T hA hB hT hc hm => ?_)
  obtain ⟨i1, i2⟩ := M_pre hm x
  have i3 : A 1 = 0 → ∀ y, f_X11_why 0 ((gd σm).1 0 14) (bI y) (gd σm) = some (1, gd σm) := fun q y => by rw [i2, decide_eq_false (by omega)]; rfl
  by_cases q : A 1 = 0
  · refine ⟨-100, 1, by decide, QC_any ?_, QM_any ?_⟩
    · unfold f_X10_foot; rw [zck_t v0, C_noLetter hc hA, decide_eq_true q, zbd_s, zbr_f (by decide), C_refuse, zbd_s]
    · unfold f_X11_foot; rw [zck_t w0, M_good, zbd_s, i1, zbd_s, i3 q, zbd_s, zlt_e, zbr_f (by decide), zlt_e]
  · cases hx : inR x 10
    · refine ⟨-100, 2, by decide, QC_any ?_, QM_any ?_⟩
      · unfold f_X10_foot; rw [zck_t v0, C_noLetter hc hA, decide_eq_false q, zbd_s, zbr_t (by rfl), C_isInk, hx, zbd_s, zbr_t (by rfl), C_refuse, zbd_s]
      · unfold f_X11_foot; rw [zck_t w0, M_good, zbd_s, i1, zbd_s, i2, zbd_s, decide_eq_true (by omega), hx, zlt_e, zbr_f (by decide), zlt_e]; rfl
    · by_cases hw : w = 0
      · obtain ⟨v, e1, e2⟩ := CM_foot x y z σc (gd σm)
        refine ⟨v, 0, by decide, QC_grant ?_, QM_pure ?_⟩
        · unfold f_X10_foot; rw [zck_t v0, C_noLetter hc hA, decide_eq_false q, zbd_s, zbr_t (by rfl), C_isInk, hx, zbd_s, zbr_f (by decide), zbr_t hw, e1, zbd_s]; rfl
        · unfold f_X11_foot; rw [zck_t w0, M_good, zbd_s, i1, zbd_s, i2, zbd_s, decide_eq_true (by omega), hx, zlt_e, zbr_t (by rfl), zbr_t hw, e2, zbd_s]
      · obtain ⟨v, e1, e2⟩ := CM_foot x z y σc (gd σm)
        refine ⟨v, 0, by decide, QC_grant ?_, QM_pure ?_⟩
        · unfold f_X10_foot; rw [zck_t v0, C_noLetter hc hA, decide_eq_false q, zbd_s, zbr_t (by rfl), C_isInk, hx, zbd_s, zbr_f (by decide), zbr_f hw, e1, zbd_s]; rfl
        · unfold f_X11_foot; rw [zck_t w0, M_good, zbd_s, i1, zbd_s, i2, zbd_s, decide_eq_true (by omega), hx, zlt_e, zbr_t (by rfl), zbr_f hw, e2, zbd_s]
theorem O_rests : zO_rests Rel := by
  intro σc σm x hR
  refine hR.q (fun b A B T hA hB hT hc hm => ?_)
  obtain ⟨i1, i2⟩ := M_pre hm x
  have i3 : A 1 = 0 → ∀ y, f_X11_why 0 ((gd σm).1 0 14) (bI y) (gd σm) = some (1, gd σm) := fun q y => by rw [i2, decide_eq_false (by omega)]; rfl
  by_cases q : A 1 = 0
  · refine ⟨-1, 1, by decide, QC_refuse ?_, QM_refuse ?_⟩
    · unfold f_X10_rests; rw [zck_t v0, C_noLetter hc hA, decide_eq_true q, zbd_s, zbr_f (by decide), C_refuse, zbd_s]
    · unfold f_X11_rests; rw [zck_t w0, M_good, zbd_s, i1, zbd_s, i3 q, zbd_s, zlt_e, zbr_f (by decide)]; rfl
  · cases hx : inR x 10
    · refine ⟨-1, 2, by decide, QC_refuse ?_, QM_refuse ?_⟩
      · unfold f_X10_rests; rw [zck_t v0, C_noLetter hc hA, decide_eq_false q, zbd_s, zbr_t (by rfl), C_isInk, hx, zbd_s, zbr_t (by rfl), C_refuse, zbd_s]
      · unfold f_X11_rests; rw [zck_t w0, M_good, zbd_s, i1, zbd_s, i2, zbd_s, decide_eq_true (by omega), hx, zlt_e, zbr_f (by decide)]; rfl
    · refine ⟨nI (ct (rsq x) 4), 0, by decide, QC_grant ?_, QM_ansP P38_Pq (by unfold P38; omega) ?_⟩
      · unfold f_X10_rests
        rw [zck_t v0, C_noLetter hc hA, decide_eq_false q, zbd_s, zbr_t (by rfl), C_isInk, hx, zbd_s, zbr_f (by decide), zlt_e, zlt_e]
        refine zup (P := fun f k => f_X10_rests_30 0 f x (nI (ct (rsq x) k)) (nI k) σc = _) 4 ?_ ?_ 0 (Nat.zero_le _) FU (by unfold FU; omega)
        · intro f
          rw [f_X10_rests_30, zbr_t (by decide), C_grant, zbd_s]
        · intro f k hk ih
          rw [f_X10_rests_30, zbr_f (show ¬ (4 : Int32) ≤ nI k from nI_ge (b := 4) hk (by decide)), C_rests_step _ _ _ hk]
          rw [ct] at ih
          cases e : rsq x k
          · rw [e, if_neg (by decide), Nat.add_zero] at ih
            rw [if_neg (by decide)]
            exact ih
          · rw [e, if_pos rfl] at ih
            rw [if_pos rfl, nI_1]
            exact ih
      · unfold f_X11_rests
        rw [zck_t w0, M_good, zbd_s, i1, zbd_s, i2, zbd_s, decide_eq_true (by omega), hx, zlt_e]
        exact zH_t rfl (zH_call (M_seekRests x _) (fun r τ h => zH_ok ⟨h.1, h.2.1⟩))
theorem O_rest : zO_rest Rel := by
  intro σc σm x hR
  refine hR.q (fun b A B T hA hB hT hc hm => ?_)
  obtain ⟨i1, i2⟩ := M_pre hm x
  have i3 : A 1 = 0 → ∀ y, f_X11_why 0 ((gd σm).1 0 14) (bI y) (gd σm) = some (1, gd σm) := fun q y => by rw [i2, decide_eq_false (by omega)]; rfl
  by_cases q : A 1 = 0
  · refine ⟨-1, 1, by decide, QC_refuse ?_, QM_refuse ?_⟩
    · unfold f_X10_rest; rw [zck_t v0, C_noLetter hc hA, decide_eq_true q, zbd_s, zbr_f (by decide), C_refuse, zbd_s]
    · unfold f_X11_rest; rw [zck_t w0, M_good, zbd_s, i1, zbd_s, i3 q, zbd_s, zlt_e, zbr_f (by decide)]; rfl
  · cases hx : inR x 10
    · refine ⟨-1, 2, by decide, QC_refuse ?_, QM_refuse ?_⟩
      · unfold f_X10_rest; rw [zck_t v0, C_noLetter hc hA, decide_eq_false q, zbd_s, zbr_t (by rfl), C_isInk, hx, zbd_s, zbr_t (by rfl), C_refuse, zbd_s]
      · unfold f_X11_rest; rw [zck_t w0, M_good, zbd_s, i1, zbd_s, i2, zbd_s, decide_eq_true (by omega), hx, zlt_e, zbr_f (by decide)]; rfl
    · refine ⟨oI ((fi (rsq x) 4).map rv), 0, by decide, QC_grant ?_, QM_ansP P38_Pq (by unfold P38; omega) ?_⟩
      · unfold f_X10_rest
        rw [zck_t v0, C_noLetter hc hA, decide_eq_false q, zbd_s, zbr_t (by rfl), C_isInk, hx, zbd_s, zbr_f (by decide), zlt_e]
        refine zup (P := fun f k => (∀ j, j < k → rsq x j = false) → f_X10_rest_28 0 f x (nI k) σc = _) 4 ?_ ?_ 0 (Nat.zero_le _) FU (by unfold FU; omega) (fun j hj => absurd hj (Nat.not_lt_zero j))
        · intro f hall
          rw [f_X10_rest_28, zbr_t (by decide), C_grant, zbd_s, fi_none.mpr hall]
          rfl
        · intro f k hk ih hall
          rw [f_X10_rest_28, zbr_f (show ¬ (4 : Int32) ≤ nI k from nI_ge (b := 4) hk (by decide)), C_rest_step _ _ hk]
          cases e : rsq x k
          · rw [if_neg (by decide)]
            exact ih (fun j hj => by
              by_cases z : j = k
              · subst z; exact e
              · exact hall j (by omega))
          · rw [if_pos rfl, fi_iff.mpr ⟨hk, e, hall⟩]
            rfl
      · unfold f_X11_rest
        rw [zck_t w0, M_good, zbd_s, i1, zbd_s, i2, zbd_s, decide_eq_true (by omega), hx, zlt_e]
        exact zH_t rfl (zH_call (M_seekRests x _) (fun r τ h => zH_ok ⟨h.2.2, h.2.1⟩))
/-- what tells no trouble -/
theorem Rel.n {σc σm : zS} (hR : Rel σc σm) : Rel σc (zpi σm 0 0 0) := by
  obtain ⟨b, A, B, T, h1, h2, h3, h4, h5, h6, h7, h8, h9⟩ := hR
  refine ⟨b, A, B, T, h1, h2, h3, h4, h5.f ((fr_r Pq σm).pi _ (by unfold Pq; omega)), h6.f (fun _ _ _ => rfl) (fun a k z => zpi_ne _ _ (by omega)), h7, ?_, ?_⟩
  · rw [zpi_ne _ _ (by omega)]; exact h8
  · rw [zpi_ne _ _ (by omega)]; exact h9
theorem O_fault : zO_fault Rel := by
  intro σc σm hR
  refine ⟨σc.1 0 11, σc, zpi σm 0 0 0, rfl, ?_, hR.n⟩
  obtain ⟨b, A, B, T, h1, h2, h3, h4, h5, h6, h7, h8, h9⟩ := hR
  unfold f_X11_fault
  rw [zck_t w0, zlt_e, zpi_ne _ _ (by omega), h6.1]
theorem O_trouble : zO_trouble Rel := by
  intro σc σm hR
  refine ⟨σc.1 0 10, σc, zpi σm 0 0 0, rfl, ?_, hR.n⟩
  obtain ⟨b, A, B, T, h1, h2, h3, h4, h5, h6, h7, h8, h9⟩ := hR
  unfold f_X11_trouble
  rw [zck_t w0, zlt_e, zpi_ne _ _ (by omega), h8]
theorem O_where : zO_where Rel := by
  intro σc σm hR
  have hn := hR.n
  obtain ⟨b, A, B, T, h1, h2, h3, h4, h5, h6, h7, h8, h9⟩ := hR
  unfold f_X10_where f_X11_where
  rw [zck_t v0, zck_t w0, zlt_e, zpi_ne σm _ (show ¬ (0 = 0 ∧ 11 = 0) by omega), zpi_ne σm _ (show ¬ (0 = 0 ∧ 10 = 0) by omega), ← h8]
  by_cases q : σc.1 0 10 = 4
  · rw [zbr_t q, zbr_t q, h9 q]
    exact ⟨_, _, _, rfl, rfl, hn⟩
  · rw [zbr_f q, zbr_f q]
    exact ⟨_, _, _, rfl, rfl, hn⟩
theorem O_size : zO_size Rel := by
  intro σc σm x hR
  have hn := hR.n
  obtain ⟨b, A, B, T, hA, hB, h3, hc, hm0, h6, h7, h8, h9⟩ := hR
  have hm : mU A B T D0 (zpi σm 0 0 0) := hm0.f ((fr_r Pq σm).pi _ (by unfold Pq; omega))
  have hA1 := hA.1
  obtain ⟨-, ⟨n, tp, t1, t2, t3, -⟩, ni, nu, ⟨m1, m2, m3, -⟩, ⟨u1, u2, u3, -⟩, zz⟩ := h6
  have r8 : σc.2 (Lc b) 8 = Lc b + 14 := hc.k.2.1.2.2.2.2.2.2.2.2
  have r5 : σc.2 0 5 = 57 := by rw [hc.1]; simp only [RCs]
  have r0 : σc.2 0 0 = 1 := by rw [hc.1]; simp only [RCs]
  have r10 : σc.2 1 0 = 2 := by rw [hc.1]; simp only [RCs]
  have i10 : f_X11_in x 0 10 (zpi σm 0 0 0) = some (bI (inR x 11), zpi σm 0 0 0) := M_inc x (n := 10) (by decide) _
  have i8 : f_X11_in x 0 8 (zpi σm 0 0 0) = some (bI (inR x 9), zpi σm 0 0 0) := M_inc x (n := 8) (by decide) _
  have preM : f_X11_size 0 x σm = zbr (x = 11) (some (nI n, zpi σm 0 0 0)) (zbr (bI (decide (0 < A 1)) = 0) (zbr (bI (inR x 11) = 0) (some (-1, zpi σm 0 0 0)) (some (0, zpi σm 0 0 0))) (zbr (x = 5) (some (nI (B 48), zpi σm 0 0 0)) (zbr (bI (inR x 9) = 0) (zbr (x = 9) (some (nI nu, zpi σm 0 0 0)) (zbr (x = 10) (some (nI ni, zpi σm 0 0 0)) (some (-1, zpi σm 0 0 0)))) (zck (zok 100 (100, 195) x) (some ((zpi σm 0 0 0).1 3 x.toNatClampNeg, zpi σm 0 0 0)))))) := by
    unfold f_X11_size
    rw [zck_t w0, zlt_e, i10, zbd_s, i8, zbd_s, hm.2.2.2.2.2, mr19 hm.1, w7, zck_t (by decide), cl48, hm.2.2.1 48 (by omega), zpi_ne σm _ (show ¬ (0 = 0 ∧ 2 = 0) by omega), zpi_ne σm _ (show ¬ (0 = 0 ∧ 22 = 0) by omega), zpi_ne σm _ (show ¬ (0 = 0 ∧ 23 = 0) by omega), t3, u3, m3, mr15 hm.1, w3]
  have preC : f_X10_size 0 x σc = zbr (x = 0) (some (nI (A 0), σc)) (zbr (x = 1) (some (nI (A 1), σc)) (zbr (x = 2) (some (nI (A 2), σc)) (zbr (x = 3) (some (nI (A 3), σc)) (zbr (x = 4) (some (nI (A 4), σc)) (zbr (x = 5) (some (nI (B 48), σc)) (zbr (x = 6) (some (nI (A 6), σc)) (zbr (x = 7) (some (nI (A 7), σc)) (zbr (x = 8) (some (nI (A 8), σc)) (zbr (x = 9) (some (nI nu, σc)) (zbr (x = 10) (some (nI ni, σc)) (zbr (x = 11) (some (nI n, σc)) (some (-1, σc))))))))))))) := by
    have k57 : WC.2 57 = (7, 0) := rfl
    have k1 : WC.2 1 = (8, 0) := rfl
    have k2 : WC.2 2 = (9, 0) := rfl
    unfold f_X10_size
    simp only [zck_t v0, hc.r8, zck_t hc.k.1, hc.2.1.1.1, hc.2.1.1.2.1, hc.2.1.1.2.2.1, hc.2.1.1.2.2.2.1, hc.2.1.1.2.2.2.2.1, hc.r3, zck_t v32, hc.2.2.1.1, hc.2.1.1.2.2.2.2.2.1, hc.2.1.1.2.2.2.2.2.2.1, r8, zck_t hc.k.2.2.2.1, hc.2.1.1.2.2.2.2.2.2.2, r5, zck_t k57, u2, m2, r0, zck_t k1, r10, zck_t k2, t2]
  cases hx : inR x 12
  · have ne : ∀ j, j < 12 → ¬ x = nI j := fun j hj => inR_ne hx j hj (by decide)
    have e11 : inR x 11 = false := by
      cases e : inR x 11
      · rfl
      · obtain ⟨j, hj, e⟩ := inR_t e
        exact absurd e (ne j (by omega))
    have e9 : inR x 9 = false := by
      cases e : inR x 9
      · rfl
      · obtain ⟨j, hj, e⟩ := inR_t e
        exact absurd e (ne j (by omega))
    refine ⟨-1, σc, zpi σm 0 0 0, ?_, ?_, hn⟩
    · rw [preC, zbr_f (show ¬ x = 0 from ne 0 (by decide)), zbr_f (show ¬ x = 1 from ne 1 (by decide)), zbr_f (show ¬ x = 2 from ne 2 (by decide)), zbr_f (show ¬ x = 3 from ne 3 (by decide)), zbr_f (show ¬ x = 4 from ne 4 (by decide)), zbr_f (show ¬ x = 5 from ne 5 (by decide)), zbr_f (show ¬ x = 6 from ne 6 (by decide)), zbr_f (show ¬ x = 7 from ne 7 (by decide)), zbr_f (show ¬ x = 8 from ne 8 (by decide)), zbr_f (show ¬ x = 9 from ne 9 (by decide)), zbr_f (show ¬ x = 10 from ne 10 (by decide)), zbr_f (show ¬ x = 11 from ne 11 (by decide))]
    · rw [preM, zbr_f (show ¬ x = 11 from ne 11 (by decide)), e11, e9]
      by_cases q : A 1 = 0
      · rw [zbr_t (by rw [decide_eq_false (by omega)]; rfl), zbr_t (by rfl)]
      · rw [zbr_f (by rw [decide_eq_true (by omega)]; decide), zbr_f (show ¬ x = 5 from ne 5 (by decide)), zbr_t (by rfl), zbr_f (show ¬ x = 9 from ne 9 (by decide)), zbr_f (show ¬ x = 10 from ne 10 (by decide))]
  · obtain ⟨j, hj, rfl⟩ := inR_t hx
    have hz := fun z => hA.z z
    have hz2 := fun z => hB.1.z z
    have hj12 : j = 0 ∨ j = 1 ∨ j = 2 ∨ j = 3 ∨ j = 4 ∨ j = 5 ∨ j = 6 ∨ j = 7 ∨ j = 8 ∨ j = 9 ∨ j = 10 ∨ j = 11 := by omega
    rw [preC, preM]
    rcases hj12 with rfl | rfl | rfl | rfl | rfl | rfl | rfl | rfl | rfl | rfl | rfl | rfl
    · refine ⟨nI (A 0), σc, zpi σm 0 0 0, ?_, ?_, hn⟩
      · rw [zbr_t (by rfl)]
      · rw [zbr_f (by decide)]
        by_cases q : A 1 = 0
        · rw [zbr_t (by rw [decide_eq_false (by omega)]; rfl), zbr_f (by decide), (hz q).1]; rfl
        · rw [zbr_f (by rw [decide_eq_true (by omega)]; decide), zbr_f (by decide), zbr_f (by decide), zck_t (by decide), nI_clamp (by decide), hm.2.1 0 (by omega)]
    · refine ⟨nI (A 1), σc, zpi σm 0 0 0, ?_, ?_, hn⟩
      · rw [zbr_f (by decide), zbr_t (by rfl)]
      · rw [zbr_f (by decide)]
        by_cases q : A 1 = 0
        · rw [zbr_t (by rw [decide_eq_false (by omega)]; rfl), zbr_f (by decide), q]; rfl
        · rw [zbr_f (by rw [decide_eq_true (by omega)]; decide), zbr_f (by decide), zbr_f (by decide), zck_t (by decide), nI_clamp (by decide), hm.2.1 1 (by omega)]
    · refine ⟨nI (A 2), σc, zpi σm 0 0 0, ?_, ?_, hn⟩
      · rw [zbr_f (by decide), zbr_f (by decide), zbr_t (by rfl)]
      · rw [zbr_f (by decide)]
        by_cases q : A 1 = 0
        · rw [zbr_t (by rw [decide_eq_false (by omega)]; rfl), zbr_f (by decide), (hz q).2.1]; rfl
        · rw [zbr_f (by rw [decide_eq_true (by omega)]; decide), zbr_f (by decide), zbr_f (by decide), zck_t (by decide), nI_clamp (by decide), hm.2.1 2 (by omega)]
    · refine ⟨nI (A 3), σc, zpi σm 0 0 0, ?_, ?_, hn⟩
      · rw [zbr_f (by decide), zbr_f (by decide), zbr_f (by decide), zbr_t (by rfl)]
      · rw [zbr_f (by decide)]
        by_cases q : A 1 = 0
        · rw [zbr_t (by rw [decide_eq_false (by omega)]; rfl), zbr_f (by decide), (hz q).2.2.1]; rfl
        · rw [zbr_f (by rw [decide_eq_true (by omega)]; decide), zbr_f (by decide), zbr_f (by decide), zck_t (by decide), nI_clamp (by decide), hm.2.1 3 (by omega)]
    · refine ⟨nI (A 4), σc, zpi σm 0 0 0, ?_, ?_, hn⟩
      · rw [zbr_f (by decide), zbr_f (by decide), zbr_f (by decide), zbr_f (by decide), zbr_t (by rfl)]
      · rw [zbr_f (by decide)]
        by_cases q : A 1 = 0
        · rw [zbr_t (by rw [decide_eq_false (by omega)]; rfl), zbr_f (by decide), (hz q).2.2.2.1]; rfl
        · rw [zbr_f (by rw [decide_eq_true (by omega)]; decide), zbr_f (by decide), zbr_f (by decide), zck_t (by decide), nI_clamp (by decide), hm.2.1 4 (by omega)]
    · refine ⟨nI (B 48), σc, zpi σm 0 0 0, ?_, ?_, hn⟩
      · rw [zbr_f (by decide), zbr_f (by decide), zbr_f (by decide), zbr_f (by decide), zbr_f (by decide), zbr_t (by rfl)]
      · rw [zbr_f (by decide)]
        by_cases q : A 1 = 0
        · rw [zbr_t (by rw [decide_eq_false (by omega)]; rfl), zbr_f (by decide), hz2 q]; rfl
        · rw [zbr_f (by rw [decide_eq_true (by omega)]; decide), zbr_t (by rfl)]
    · refine ⟨nI (A 6), σc, zpi σm 0 0 0, ?_, ?_, hn⟩
      · rw [zbr_f (by decide), zbr_f (by decide), zbr_f (by decide), zbr_f (by decide), zbr_f (by decide), zbr_f (by decide), zbr_t (by rfl)]
      · rw [zbr_f (by decide)]
        by_cases q : A 1 = 0
        · rw [zbr_t (by rw [decide_eq_false (by omega)]; rfl), zbr_f (by decide), (hz q).2.2.2.2.1]; rfl
        · rw [zbr_f (by rw [decide_eq_true (by omega)]; decide), zbr_f (by decide), zbr_f (by decide), zck_t (by decide), nI_clamp (by decide), hm.2.1 6 (by omega)]
    · refine ⟨nI (A 7), σc, zpi σm 0 0 0, ?_, ?_, hn⟩
      · rw [zbr_f (by decide), zbr_f (by decide), zbr_f (by decide), zbr_f (by decide), zbr_f (by decide), zbr_f (by decide), zbr_f (by decide), zbr_t (by rfl)]
      · rw [zbr_f (by decide)]
        by_cases q : A 1 = 0
        · rw [zbr_t (by rw [decide_eq_false (by omega)]; rfl), zbr_f (by decide), (hz q).2.2.2.2.2.1]; rfl
        · rw [zbr_f (by rw [decide_eq_true (by omega)]; decide), zbr_f (by decide), zbr_f (by decide), zck_t (by decide), nI_clamp (by decide), hm.2.1 7 (by omega)]
    · refine ⟨nI (A 8), σc, zpi σm 0 0 0, ?_, ?_, hn⟩
      · rw [zbr_f (by decide), zbr_f (by decide), zbr_f (by decide), zbr_f (by decide), zbr_f (by decide), zbr_f (by decide), zbr_f (by decide), zbr_f (by decide), zbr_t (by rfl)]
      · rw [zbr_f (by decide)]
        by_cases q : A 1 = 0
        · rw [zbr_t (by rw [decide_eq_false (by omega)]; rfl), zbr_f (by decide), (hz q).2.2.2.2.2.2]; rfl
        · rw [zbr_f (by rw [decide_eq_true (by omega)]; decide), zbr_f (by decide), zbr_f (by decide), zck_t (by decide), nI_clamp (by decide), hm.2.1 8 (by omega)]
    · refine ⟨nI (nu), σc, zpi σm 0 0 0, ?_, ?_, hn⟩
      · rw [zbr_f (by decide), zbr_f (by decide), zbr_f (by decide), zbr_f (by decide), zbr_f (by decide), zbr_f (by decide), zbr_f (by decide), zbr_f (by decide), zbr_f (by decide), zbr_t (by rfl)]
      · rw [zbr_f (by decide)]
        by_cases q : A 1 = 0
        · rw [zbr_t (by rw [decide_eq_false (by omega)]; rfl), zbr_f (by decide), (zz q).2]; rfl
        · rw [zbr_f (by rw [decide_eq_true (by omega)]; decide), zbr_f (by decide), zbr_t (by decide), zbr_t (by rfl)]
    · refine ⟨nI (ni), σc, zpi σm 0 0 0, ?_, ?_, hn⟩
      · rw [zbr_f (by decide), zbr_f (by decide), zbr_f (by decide), zbr_f (by decide), zbr_f (by decide), zbr_f (by decide), zbr_f (by decide), zbr_f (by decide), zbr_f (by decide), zbr_f (by decide), zbr_t (by rfl)]
      · rw [zbr_f (by decide)]
        by_cases q : A 1 = 0
        · rw [zbr_t (by rw [decide_eq_false (by omega)]; rfl), zbr_f (by decide), (zz q).1]; rfl
        · rw [zbr_f (by rw [decide_eq_true (by omega)]; decide), zbr_f (by decide), zbr_t (by decide), zbr_f (by decide), zbr_t (by rfl)]
    · refine ⟨nI (n), σc, zpi σm 0 0 0, ?_, ?_, hn⟩
      · rw [zbr_f (by decide), zbr_f (by decide), zbr_f (by decide), zbr_f (by decide), zbr_f (by decide), zbr_f (by decide), zbr_f (by decide), zbr_f (by decide), zbr_f (by decide), zbr_f (by decide), zbr_f (by decide), zbr_t (by rfl)]
      · rw [zbr_t (by rfl)]
