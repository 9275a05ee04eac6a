/-! fillings: the class's side -/
def Pff (a _k : Nat) : Prop := 60 ≤ a ∧ a ≤ 66
theorem px9' (k s : Nat) : nI k * (9 : Int32) + nI s = nI (9 * k + s) := by show nI k * nI 9 + nI s = _; rw [nI_mul, nI_add, Nat.mul_comm]
theorem tI_m1 {c : Nat} (h4 : c ≤ 4) (h2 : c ≠ 2) : tI c = -1 ↔ c = 0 := by
  have : c = 0 ∨ c = 1 ∨ c = 3 ∨ c = 4 := by omega
  rcases this with rfl | rfl | rfl | rfl <;> decide
theorem tI_o {c : Nat} (h0 : c ≠ 0) (h4 : c ≤ 4) (h2 : c ≠ 2) : tI c = oI (tO c) := by
  have : c = 1 ∨ c = 3 ∨ c = 4 := by omega
  rcases this with rfl | rfl | rfl <;> decide
theorem plE_lf {A T : Nat → Nat} (hA : vA A) (hT : vB A T) (m f : Nat) {k : Nat} (hk : k ≤ A 6) : ∀ q, A 1 ≤ q → q < 6 → plE (lfill A T m f k) q = false := by
  intro q h1 h2
  cases e : plE (lfill A T m f k) q
  · rfl
  · obtain ⟨j, hj, e2⟩ := plE_iff.mp e
    have := (lfill_vL hA hT m f k hk j hj).1
    omega
theorem k60 : WC.2 60 = (2, 0) := rfl
theorem k61 : WC.2 61 = (100, 729) := rfl
theorem k62 : WC.2 62 = (100, 27) := rfl
theorem k63 : WC.2 63 = (100, 4) := rfl
theorem k64 : WC.2 64 = (100, 4) := rfl
theorem k65 : WC.2 65 = (100, 4) := rfl
theorem k66 : WC.2 66 = (100, 4) := rfl
section FC
variable {b : Bool} {A B T : Nat → Nat} {σ : zS}
theorem cU.r6 (h : cU b A B T σ) : σ.2 0 6 = 60 := by rw [h.1]; simp only [RCs]
theorem cU.r600 (h : cU b A B T σ) : σ.2 60 0 = 61 ∧ σ.2 60 1 = 62 ∧ σ.2 60 2 = 63 ∧ σ.2 60 3 = 64 ∧ σ.2 60 4 = 65 ∧ σ.2 60 5 = 66 := by
  rw [h.1]; simp only [RCs, and_self]
theorem cU.ff {τ : zS} (h : cU b A B T σ) (g : fr Pff σ τ) : cU b A B T τ := h.g g.1 (fun a k z => g.2 a k (by unfold Pff; omega))
theorem sy_pow (hA : vA A) {d : Nat} (hd : d ≤ A 6) : (2 * A 4 + 1) ^ d ≤ 729 ∧ 0 < (2 * A 4 + 1) ^ d := by
  have hA1 := hA.1
  have h1 : (2 * A 4 + 1) ^ d ≤ 9 ^ d := Nat.pow_le_pow_left (by omega) _
  have h2 : (9 : Nat) ^ d ≤ 9 ^ 3 := Nat.pow_le_pow_right (by decide) (by omega)
  have h3 : (9 : Nat) ^ 3 = 729 := by decide
  exact ⟨by omega, Nat.pow_pos (by omega)⟩
theorem C_stepOf (hA : vA A) (h8 : σ.1 60 8 = nI (A 6)) (h9 : σ.1 60 9 = nI (2 * A 4 + 1)) {x : Int32} {j : Nat} (hx : x + 1 = nI j) (hj : j ≤ A 6) : f_X2_stepOf 60 x σ = some (nI ((2 * A 4 + 1) ^ (A 6 - j)), σ) := by
  have hA1 := hA.1
  unfold f_X2_stepOf
  rw [zck_t k60, zlt_e, zlt_e, hx]
  suffices key : ∀ k, k ≤ A 6 → ∀ f, A 6 - k < f → j ≤ k → f_X2_stepOf_6 60 f (nI ((2 * A 4 + 1) ^ (k - j))) (nI k) σ = some (nI ((2 * A 4 + 1) ^ (A 6 - j)), σ) by
    have := key j hj FU (by unfold FU; omega) (Nat.le_refl _)
    rw [Nat.sub_self] at this
    exact this
  refine zup (P := fun f k => j ≤ k → f_X2_stepOf_6 60 f (nI ((2 * A 4 + 1) ^ (k - j))) (nI k) σ = _) (A 6) ?_ ?_
  · intro f _
    rw [f_X2_stepOf_6, h8, zbr_t (Int32.le_refl _)]
  · intro f k hk ih hjk
    have ih := ih (by omega)
    rw [show k + 1 - j = k - j + 1 by omega, Nat.pow_succ] at ih
    rw [f_X2_stepOf_6, h8, h9, zbr_f (nI_ge hk (by omega)), nI_mul, zlt_e, zlt_e, nI_1]
    exact ih
theorem C_digit (hA : vA A) (h8 : σ.1 60 8 = nI (A 6)) (h9 : σ.1 60 9 = nI (2 * A 4 + 1)) {f k : Nat} (hf : f < 2 ^ 31) (hk : k < A 6) : f_X2_digit 60 (nI f) (nI k) σ = some (nI (digN A f k), σ) := by
  have hA1 := hA.1
  obtain ⟨p1, p2⟩ := sy_pow (d := A 6 - 1 - k) hA (by omega)
  have hle : f / (2 * A 4 + 1) ^ (A 6 - 1 - k) ≤ f := Nat.div_le_self _ _
  unfold f_X2_digit
  rw [zck_t k60, C_stepOf hA h8 h9 (nI_1 k) (by omega), zbd_s, zlt_e, show A 6 - (k + 1) = A 6 - 1 - k by omega, h9, zbr_f (nI_nle p2 (by omega)), zbr_f (nI_nle (by omega) (by omega)), zck_t (nI_ne0 p2 (by omega)), zck_t (nI_ne0 (by omega) (by omega)), pk_div hf p2 (by omega), pk_rem (by omega) (by omega) (by omega)]
  rfl
/-- the rows of places and of dos, behind k hidden lines -/
def rowsF (A T : Nat → Nat) (f k : Nat) (σ : zS) : Prop := ∀ m, m < A 4 → σ.1 65 m = nI (mk (plE (lfill A T m f k)) 6) ∧ σ.1 66 m = nI (mk (dsE (lfill A T m f k)) 6)
def rowsT (A T : Nat → Nat) (n : Nat) (σ : zS) : Prop := ∀ m, m < n → σ.1 63 m = nI (mk (plE (ll T m (rd T) (T 48))) 6) ∧ σ.1 64 m = nI (mk (dsE (ll T m (rd T) (T 48))) 6)
def Pf6 (a _k : Nat) : Prop := a = 65 ∨ a = 66
theorem Pf6_ff (a k : Nat) (h : Pf6 a k) : Pff a k := by unfold Pf6 at h; unfold Pff; omega
theorem C_fill (h : cU b A B T σ) (hA : vA A) (hT : vB A T) (h8 : σ.1 60 8 = nI (A 6)) (h9 : σ.1 60 9 = nI (2 * A 4 + 1)) (hr : rowsT A T (A 4) σ) {f : Nat} (hf : f < 2 ^ 31) : zH (f_X2_fill 60 (Lc b) (nI f) σ) (fun _ σ' => fr Pf6 σ σ' ∧ rowsF A T f (A 6) σ') := by
  have hA1 := hA.1
  obtain ⟨r0, r1, r2, r3, r4, r5⟩ := h.r600
  -- the hidden lines
  have hid : ∀ τ, fr Pf6 σ τ → rowsF A T f 0 τ → zH (f_X2_fill_42 60 FU (Lc b) (nI f) 0 τ) (fun _ σ' => fr Pf6 σ σ' ∧ rowsF A T f (A 6) σ') := by
    intro τ hF hR
    suffices key : ∀ k, k ≤ A 6 → ∀ g, A 6 - k < g → ∀ τ, fr Pf6 σ τ → rowsF A T f k τ → zH (f_X2_fill_42 60 g (Lc b) (nI f) (nI k) τ) (fun _ σ' => fr Pf6 σ σ' ∧ rowsF A T f (A 6) σ') from key 0 (Nat.zero_le _) FU (by unfold FU; omega) τ hF hR
    refine zup (P := fun g k => ∀ τ, fr Pf6 σ τ → rowsF A T f k τ → zH (f_X2_fill_42 60 g (Lc b) (nI f) (nI k) τ) _) (A 6) ?_ ?_
    · intro g τ hF hR
      rw [f_X2_fill_42, hF.2 60 8 (by unfold Pf6; omega), h8]
      exact zH_t (Int32.le_refl _) (zH_ok ⟨hF, hR⟩)
    · intro g k hk ih τ hF hR
      have t8 : τ.1 60 8 = nI (A 6) := (hF.2 60 8 (by unfold Pf6; omega)).trans h8
      have t9 : τ.1 60 9 = nI (2 * A 4 + 1) := (hF.2 60 9 (by unfold Pf6; omega)).trans h9
      have ht := h.ff (hF.mo Pf6_ff)
      have hd := digN_lt A f k
      have hcov := hA.2.2.2.2.2.2.1 k hk
      have nxt : ∀ υ, fr Pf6 σ υ → rowsF A T f (k + 1) υ → zH (f_X2_fill_135 60 (f_X2_fill_42 60 g) (Lc b) (nI f) (nI k) υ) (fun _ σ' => fr Pf6 σ σ' ∧ rowsF A T f (A 6) σ') := by
        intro υ a1 a2
        unfold f_X2_fill_135
        refine zH_lt ?_
        rw [nI_1]
        exact ih υ a1 a2
      rw [f_X2_fill_42, t8]
      refine zH_f (nI_ge hk (by omega)) (zH_eq (C_digit hA t8 t9 hf hk) (zH_lt ?_))
      rw [rem2 (d := digN A f k) (by omega), half (by omega)]
      refine zH_ck (by decide) (zH_lt ?_)
      rw [ht.k.2.1.2.2.2.2.2.2.1, ht.k.2.2.1.2.2.2.2.2.2, nI_clamp (n := k) (by omega), ht.2.1.2.2.2.2.2.1 k hk, ht.2.1.1.2.2.2.2.1]
      refine zH_ck ht.k.1 (zH_ck (zok_p (by omega) (by decide)) (zH_lt ?_))
      by_cases e : A 4 ≤ digN A f k / 2
      · refine zH_t (nI_le e (by omega)) (nxt τ hF (fun m hm => ?_))
        rw [lfill_f (by omega)]
        exact hR m hm
      · have em : digN A f k / 2 < A 4 := by omega
        obtain ⟨p1, p2⟩ := hR _ em
        rw [hF.1, r4, k65, nI_clamp (n := digN A f k / 2) (by omega), p1, pl_put _ _ (digN A f k % 2) (8 + k) (by omega)]
        refine zH_f (nI_ge em (by omega)) (zH_ck (zok_p (show digN A f k / 2 < 4 by omega) (by decide)) (zH_ck (zok_p (show digN A f k / 2 < 4 by omega) (by decide)) (zH_lt ?_)))
        rw [zpi_2, hF.1, r5, k66, zpi_ne _ _ (by omega), p2]
        have fin : ∀ v : Int32, v = nI (mk (dsE (ap (lfill A T (digN A f k / 2) f k) (A (38 + k), digN A f k % 2, 8 + k))) 6) → zH (f_X2_fill_134 60 (f_X2_fill_42 60 g) (Lc b) (nI f) (nI k) 66 (nI (digN A f k / 2)) v (zpi τ 65 (digN A f k / 2) (nI (mk (plE (ap (lfill A T (digN A f k / 2) f k) (A (38 + k), digN A f k % 2, 8 + k))) 6)))) (fun _ σ' => fr Pf6 σ σ' ∧ rowsF A T f (A 6) σ') := by
          intro v hv
          unfold f_X2_fill_134
          rw [k66, nI_clamp (by omega), hv]
          refine zH_ck (zok_p (show digN A f k / 2 < 4 by omega) (by decide)) (zH_lt (nxt _ ((hF.pi _ (Or.inl rfl)).pi _ (Or.inr rfl)) (fun m hm => ?_)))
          by_cases z : m = digN A f k / 2
          · subst z
            rw [lfill_t ⟨rfl, by omega⟩]
            exact ⟨by rw [zpi_ne _ _ (by omega), zpi_eq], zpi_eq _ _ _ _⟩
          · rw [lfill_f (fun y => z y.1.symm)]
            exact ⟨by rw [zpi_ne _ _ (by omega), zpi_ne _ _ (by omega)]; exact (hR m hm).1, by rw [zpi_ne _ _ (by omega), zpi_ne _ _ (by omega)]; exact (hR m hm).2⟩
        refine zH_ck (by decide) ?_
        by_cases e1 : digN A f k % 2 = 1
        · refine zH_t (by rw [e1]; rfl) (zH_ck (zok_p (show digN A f k / 2 < 4 by omega) (by decide)) (fin _ ?_))
          have := ds_put (lfill A T (digN A f k / 2) f k) (A (38 + k)) (8 + k) true (by omega)
          rw [if_pos rfl, if_pos rfl] at this
          rw [this, e1]
        · refine zH_f (fun z => e1 ((nI_eq (b := 1) (by omega) (by decide)).mp z)) (zH_ck (zok_p (show digN A f k / 2 < 4 by omega) (by decide)) (fin _ ?_))
          have := ds_put (lfill A T (digN A f k / 2) f k) (A (38 + k)) (8 + k) false (by omega)
          rw [if_neg (by decide), if_neg (by decide)] at this
          rw [this, show digN A f k % 2 = 0 by omega]
  unfold f_X2_fill
  refine zH_ck k60 (zH_lt ?_)
  suffices key : ∀ k, k ≤ A 4 → ∀ g, A 4 - k < g → ∀ τ, fr Pf6 σ τ → (∀ m, m < k → τ.1 65 m = nI (mk (plE (ll T m (rd T) (T 48))) 6) ∧ τ.1 66 m = nI (mk (dsE (ll T m (rd T) (T 48))) 6)) → zH (f_X2_fill_2 60 g (Lc b) (nI f) (nI k) τ) (fun _ σ' => fr Pf6 σ σ' ∧ rowsF A T f (A 6) σ') from key 0 (Nat.zero_le _) FU (by unfold FU; omega) σ (fr_r _ σ) (fun m hm => absurd hm (Nat.not_lt_zero m))
  refine zup (P := fun g k => ∀ τ, fr Pf6 σ τ → (∀ m, m < k → τ.1 65 m = nI (mk (plE (ll T m (rd T) (T 48))) 6) ∧ τ.1 66 m = nI (mk (dsE (ll T m (rd T) (T 48))) 6)) → zH (f_X2_fill_2 60 g (Lc b) (nI f) (nI k) τ) _) (A 4) ?_ ?_
  · intro g τ hF hR
    have ht := h.ff (hF.mo Pf6_ff)
    rw [f_X2_fill_2, ht.2.1.1.2.2.2.2.1]
    exact zH_ck ht.k.1 (zH_t (Int32.le_refl _) (zH_lt (hid τ hF hR)))
  · intro g k hk ih τ hF hR
    have ht := h.ff (hF.mo Pf6_ff)
    obtain ⟨p1, p2⟩ := hr k hk
    rw [f_X2_fill_2, ht.2.1.1.2.2.2.2.1, hF.1, r2, r4, k63, k65, nI_clamp (by omega), hF.2 63 k (by unfold Pf6; omega), p1]
    refine zH_ck ht.k.1 (zH_f (nI_ge hk (by omega)) (zH_ck (zok_p (by omega) (by decide)) (zH_ck (zok_p (by omega) (by decide)) (zH_lt ?_))))
    rw [zpi_2, hF.1, r3, r5, k64, k66, zpi_ne _ _ (by omega), hF.2 64 k (by unfold Pf6; omega), p2]
    refine zH_ck (zok_p (by omega) (by decide)) (zH_ck (zok_p (by omega) (by decide)) (zH_lt (zH_lt ?_)))
    rw [nI_1]
    refine ih _ ((hF.pi _ (Or.inl rfl)).pi _ (Or.inr rfl)) (fun m hm => ?_)
    by_cases z : m = k
    · subst z
      exact ⟨by rw [zpi_ne _ _ (by omega), zpi_eq], zpi_eq _ _ _ _⟩
    · have := hR m (by omega)
      exact ⟨by rw [zpi_ne _ _ (by omega), zpi_ne _ _ (by omega)]; exact this.1, by rw [zpi_ne _ _ (by omega), zpi_ne _ _ (by omega)]; exact this.2⟩
theorem C_isAsTold (h : cU b A B T σ) (hA : vA A) (hT : vB A T) {f : Nat} (hr : rowsF A T f (A 6) σ) : f_X2_isAsTold 60 (Lc b) 28 σ = some (bI (fitq A T f), σ) := by
  have hA1 := hA.1
  obtain ⟨r0, r1, r2, r3, r4, r5⟩ := h.r600
  unfold f_X2_isAsTold
  rw [zck_t k60, zlt_e]
  refine zup (P := fun g k => (∀ j, j < k → wq A (fun m => vd (outr A D0) (lfill A T m f (A 6))) j = true) → f_X2_isAsTold_2 60 g (Lc b) 28 (nI k) σ = _) (A 4) ?_ ?_ 0 (Nat.zero_le _) FU (by unfold FU; omega) (fun j hj => absurd hj (Nat.not_lt_zero j))
  · intro g hall
    rw [f_X2_isAsTold_2, zck_t h.k.1, h.2.1.1.2.2.2.2.1, zbr_t (Int32.le_refl _), show fitq A T f = true from al_iff.mpr hall]
    rfl
  · intro g k hk ih hall
    have h41 := hA.2.2.2.2.2.2.2.1 k hk
    have hv := lfill_vL hA hT k f _ (Nat.le_refl (A 6))
    have nxt : wq A (fun m => vd (outr A D0) (lfill A T m f (A 6))) k = true → f_X2_isAsTold_47 60 (f_X2_isAsTold_2 60 g) (Lc b) 28 (nI k) σ = some (bI (fitq A T f), σ) := by
      intro z
      unfold f_X2_isAsTold_47
      rw [zlt_e, nI_1]
      exact ih (fun j hj => by
        by_cases y : j = k
        · subst y; exact z
        · exact hall j (by omega))
    rw [f_X2_isAsTold_2, zck_t h.k.1, h.2.1.1.2.2.2.2.1, zbr_f (nI_ge hk (by omega)), h.k.2.1.2.2.2.2.2.1, h.k.2.2.1.2.2.2.2.2.1, zck_t (zok_p (by omega) (by decide)), nI_clamp (by omega), h.2.1.2.2.2.2.1 k hk, zlt_e]
    by_cases e0 : A (41 + k) = 0
    · rw [zbr_t ((tI_m1 h41.1 h41.2).mpr e0)]
      exact nxt (by unfold wq; rw [decide_eq_true e0]; rfl)
    · rw [zbr_f (fun z => e0 ((tI_m1 h41.1 h41.2).mp z)), r4, r5, k65, k66, zck_t (zok_p (show k < 4 by omega) (by decide)), zck_t (zok_p (show k < 4 by omega) (by decide)), zck_t v28, (hr k hk).1, (hr k hk).2, C_outcome h.o hA1.2.1 (plE_lf hA hT k f (Nat.le_refl _)), zbd_s, vd_eq (outr_t D0 hA) (fun j hj => ⟨(hv j hj).1, (hv j hj).2.1⟩), tI_o e0 h41.1 h41.2]
      by_cases e1 : vd (outr A D0) (lfill A T k f (A 6)) = tO (A (41 + k))
      · rw [zbr_t (by rw [e1])]
        exact nxt (by unfold wq; rw [decide_eq_true e1, Bool.or_true])
      · rw [zbr_f (fun z => e1 ((oI_inj (fun j => tO_b h41.1) (fun j e => by have := vd_le hv e; omega)).mp z).symm)]
        have : fitq A T f = false := by
          cases e : fitq A T f
          · rfl
          · have := al_iff.mp e k hk
            rw [decide_eq_false e0, decide_eq_false e1] at this
            cases this
        rw [this]
        rfl
def Pf7 (a k : Nat) : Prop := a = 61 ∨ a = 62 ∨ (a = 60 ∧ k = 7)
theorem Pf7_ff (a k : Nat) (h : Pf7 a k) : Pff a k := by unfold Pf7 at h; unfold Pff; omega
theorem C_keepF (h : cU b A B T σ) (hA : vA A) (h8 : σ.1 60 8 = nI (A 6)) (h9 : σ.1 60 9 = nI (2 * A 4 + 1)) {f n : Nat} (hf : f < 2 ^ 31) (h7 : σ.1 60 7 = nI n) (hn : n < 729) {G : Nat → Nat → Nat} (hG : ∀ k, k < A 6 → ∀ s, s < 9 → σ.1 62 (9 * k + s) = nI (G k s)) : zH (f_X2_keep 60 (nI f) σ) (fun _ σ' => fr Pf7 σ σ' ∧ σ'.1 60 7 = nI (n + 1) ∧ (∀ j, σ'.1 61 j = if j = n then nI f else σ.1 61 j) ∧ ∀ k, k < A 6 → ∀ s, s < 9 → σ'.1 62 (9 * k + s) = nI (G k s + (if digN A f k = s then 1 else 0))) := by
  have hA1 := hA.1
  obtain ⟨r0, r1, r2, r3, r4, r5⟩ := h.r600
  unfold f_X2_keep
  rw [r0, h7, k61, nI_clamp (by omega)]
  refine zH_ck k60 (zH_ck (zok_p hn (by decide)) (zH_lt ?_))
  rw [zpi_ne _ _ (by omega), h7, nI_1]
  refine zH_lt (zH_lt ?_)
  suffices key : ∀ k, k ≤ A 6 → ∀ g, A 6 - k < g → ∀ τ, fr Pf7 σ τ → τ.1 60 7 = nI (n + 1) → (∀ j, τ.1 61 j = if j = n then nI f else σ.1 61 j) → (∀ j, j < k → ∀ s, s < 9 → τ.1 62 (9 * j + s) = nI (G j s + (if digN A f j = s then 1 else 0))) → (∀ j, k ≤ j → j < A 6 → ∀ s, s < 9 → τ.1 62 (9 * j + s) = nI (G j s)) → zH (f_X2_keep_22 60 g (nI f) (nI k) τ) (fun _ σ' => fr Pf7 σ σ' ∧ σ'.1 60 7 = nI (n + 1) ∧ (∀ j, σ'.1 61 j = if j = n then nI f else σ.1 61 j) ∧ ∀ k, k < A 6 → ∀ s, s < 9 → σ'.1 62 (9 * k + s) = nI (G k s + (if digN A f k = s then 1 else 0))) from
    key 0 (Nat.zero_le _) FU (by unfold FU; omega) _ (((fr_r _ σ).pi _ (Or.inl rfl)).pi _ (Or.inr (Or.inr ⟨rfl, rfl⟩))) (zpi_eq _ _ _ _) (fun j => by
      rw [zpi_ne _ _ (by omega)]
      by_cases z : j = n
      · subst z; rw [zpi_eq, if_pos rfl]
      · rw [zpi_ne _ _ (by omega), if_neg z]) (fun j hj => absurd hj (Nat.not_lt_zero j)) (fun j _ hj s hs => by rw [zpi_ne _ _ (by omega), zpi_ne _ _ (by omega)]; exact hG j hj s hs)
  refine zup (P := fun g k => ∀ τ, fr Pf7 σ τ → τ.1 60 7 = nI (n + 1) → (∀ j, τ.1 61 j = if j = n then nI f else σ.1 61 j) → (∀ j, j < k → ∀ s, s < 9 → τ.1 62 (9 * j + s) = nI (G j s + (if digN A f j = s then 1 else 0))) → (∀ j, k ≤ j → j < A 6 → ∀ s, s < 9 → τ.1 62 (9 * j + s) = nI (G j s)) → zH (f_X2_keep_22 60 g (nI f) (nI k) τ) _) (A 6) ?_ ?_
  · intro g τ hF t7 a1 a2 a3
    rw [f_X2_keep_22, hF.2 60 8 (by unfold Pf7; omega), h8]
    exact zH_t (Int32.le_refl _) (zH_ok ⟨hF, t7, a1, a2⟩)
  · intro g k hk ih τ hF t7 a1 a2 a3
    have t8 : τ.1 60 8 = nI (A 6) := (hF.2 60 8 (by unfold Pf7; omega)).trans h8
    have t9 : τ.1 60 9 = nI (2 * A 4 + 1) := (hF.2 60 9 (by unfold Pf7; omega)).trans h9
    have hd := digN_lt A f k
    rw [f_X2_keep_22, t8, hF.1, r1, k62]
    refine zH_f (nI_ge hk (by omega)) (zH_eq (C_digit hA t8 t9 hf hk) ?_)
    rw [px9', nI_clamp (by omega), a3 k (Nat.le_refl _) hk _ (by omega), nI_1]
    refine zH_ck (zok_p (by omega) (by decide)) (zH_ck (zok_p (by omega) (by decide)) (zH_lt (zH_lt ?_)))
    rw [nI_1]
    refine ih _ (hF.pi _ (Or.inr (Or.inl rfl))) (by rw [zpi_ne _ _ (by omega)]; exact t7) (fun j => by rw [zpi_ne _ _ (by omega)]; exact a1 j) (fun j hj s hs => ?_) (fun j hj1 hj2 s hs => ?_)
    · by_cases z : j = k
      · subst z
        by_cases y : digN A f j = s
        · subst y
          rw [zpi_eq, if_pos rfl]
        · rw [zpi_ne _ _ (by omega), if_neg y, Nat.add_zero]
          exact a3 j (Nat.le_refl _) hk s hs
      · rw [zpi_ne _ _ (by omega)]
        exact a2 j (by omega) s hs
    · rw [zpi_ne _ _ (by omega)]
      exact a3 j (by omega) hj2 s hs
theorem C_zero62 (σ : zS) : zH (f_J7_fill WC 62 0 σ) (fun _ σ' => fr (fun a _ => a = 62) σ σ' ∧ ∀ j, j < 27 → σ'.1 62 j = 0) := by
  unfold f_J7_fill
  rw [k62]
  refine zH_lt (zH_ck rfl (zH_lt ?_))
  suffices key : ∀ k, k ≤ 27 → ∀ g, 27 - k < g → ∀ τ, fr (fun a _ => a = 62) σ τ → (∀ j, j < k → τ.1 62 j = 0) → zH (f_J7_fill_5 WC g 62 0 (nI k) (nI 27) τ) (fun _ σ' => fr (fun a _ => a = 62) σ σ' ∧ ∀ j, j < 27 → σ'.1 62 j = 0) from key 0 (Nat.zero_le _) FU (by unfold FU; omega) σ (fr_r _ σ) (fun j hj => absurd hj (Nat.not_lt_zero j))
  refine zup (P := fun g k => ∀ τ, fr (fun a _ => a = 62) σ τ → (∀ j, j < k → τ.1 62 j = 0) → zH (f_J7_fill_5 WC g 62 0 (nI k) (nI 27) τ) _) 27 ?_ ?_
  · intro g τ hF h0
    rw [f_J7_fill_5]
    exact zH_t (Int32.le_refl _) (zH_ok ⟨hF, h0⟩)
  · intro g k hk ih τ hF h0
    rw [f_J7_fill_5, k62, nI_clamp (by omega)]
    refine zH_f (nI_ge hk (by decide)) (zH_ck (zok_p hk (by decide)) (zH_lt (zH_lt ?_)))
    rw [nI_1]
    refine ih _ (hF.pi _ rfl) (fun j hj => ?_)
    by_cases z : j = k
    · subst z; exact zpi_eq _ _ _ _
    · rw [zpi_ne _ _ (by omega)]
      exact h0 j (by omega)
theorem C_find (h : cU b A B T σ) (hA : vA A) (hT : vB A T) (hFil : Fil A T σ.1) : zH (f_X2_find 60 (Lc b) 28 σ) (fun _ σ' => fr Pff σ σ' ∧ σ'.1 60 6 = 1 ∧ fkn A T σ'.1) := by
  have hA1 := hA.1
  have hfil := filN_b hA
  obtain ⟨r0, r1, r2, r3, r4, r5⟩ := h.r600
  unfold f_X2_find
  refine zH_ck k60 ?_
  rcases hFil with h60 | ⟨h61, hk⟩
  · refine zH_t h60 (zH_ck (by decide) (zH_lt (zH_lt (zH_ck h.k.1 (zH_lt (zH_lt ?_))))))
    -- the fillings one by one
    have main : ∀ n, n ≤ filN A → ∀ g, filN A - n < g → ∀ τ, fr Pff σ τ → τ.1 60 6 = 1 → τ.1 60 8 = nI (A 6) → τ.1 60 9 = nI (2 * A 4 + 1) → rowsT A T (A 4) τ → τ.1 60 7 = nI (ct (fitq A T) n) → (∀ f, f < n → fitq A T f = true → τ.1 61 (ct (fitq A T) f) = nI f) → (∀ k, k < A 6 → ∀ s, s < 9 → τ.1 62 (9 * k + s) = nI (tly A T k s n)) → zH (f_X2_find_116 60 g (Lc b) 28 (nI (filN A)) (nI n) τ) (fun _ σ' => fr Pff σ σ' ∧ σ'.1 60 6 = 1 ∧ fkn A T σ'.1) := by
      refine zup (P := fun g n => ∀ τ, fr Pff σ τ → τ.1 60 6 = 1 → τ.1 60 8 = nI (A 6) → τ.1 60 9 = nI (2 * A 4 + 1) → rowsT A T (A 4) τ → τ.1 60 7 = nI (ct (fitq A T) n) → (∀ f, f < n → fitq A T f = true → τ.1 61 (ct (fitq A T) f) = nI f) → (∀ k, k < A 6 → ∀ s, s < 9 → τ.1 62 (9 * k + s) = nI (tly A T k s n)) → zH (f_X2_find_116 60 g (Lc b) 28 (nI (filN A)) (nI n) τ) _) (filN A) ?_ ?_
      · intro g τ hF t6 t8 t9 tr t7 a1 a2
        rw [f_X2_find_116]
        exact zH_t (Int32.le_refl _) (zH_ok ⟨hF, t6, t7, t8, t9, a1, a2⟩)
      · intro g n hn ih τ hF t6 t8 t9 tr t7 a1 a2
        have ht := h.ff hF
        have hcl := ct_le (fitq A T) n
        have tst : ∀ k s, tly A T k s (n + 1) = tly A T k s n + (if (fitq A T n && decide (digN A n k = s)) = true then 1 else 0) := fun k s => rfl
        rw [f_X2_find_116]
        refine zH_f (nI_ge hn (by omega)) (zH_f (show ¬ (729 : Int32) ≤ nI n from nI_ge (b := 729) (by omega) (by decide)) (zH_call (C_fill ht hA hT t8 t9 tr (show n < 2 ^ 31 by omega)) ?_))
        rintro - υ ⟨hu, hrF⟩
        have hu2 := hF.tr (hu.mo Pf6_ff)
        have hU := h.ff hu2
        have u : ∀ a k, a ≠ 65 → a ≠ 66 → υ.1 a k = τ.1 a k := fun a k z1 z2 => hu.2 a k (by unfold Pf6; omega)
        refine zH_eq (C_isAsTold hU hA hT hrF) ?_
        have urT : rowsT A T (A 4) υ := fun m hm => by rw [u 63 m (by omega) (by omega), u 64 m (by omega) (by omega)]; exact tr m hm
        rw [ct] at ih
        cases ef : fitq A T n
        · refine zH_t rfl ?_
          unfold f_X2_find_153
          refine zH_lt ?_
          rw [nI_1]
          rw [ef, if_neg (by decide), Nat.add_zero] at ih
          refine ih υ hu2 ((u 60 6 (by omega) (by omega)).trans t6) ((u 60 8 (by omega) (by omega)).trans t8) ((u 60 9 (by omega) (by omega)).trans t9) urT ((u 60 7 (by omega) (by omega)).trans t7) (fun f hf e => ?_) (fun k hk s hs => ?_)
          · rw [u 61 _ (by omega) (by omega)]
            by_cases z : f = n
            · subst z; rw [ef] at e; cases e
            · exact a1 f (by omega) e
          · rw [u 62 _ (by omega) (by omega), tst, ef, Bool.false_and, if_neg (by decide), Nat.add_zero]
            exact a2 k hk s hs
        · refine zH_f (by decide) (zH_call (C_keepF hU hA ((u 60 8 (by omega) (by omega)).trans t8) ((u 60 9 (by omega) (by omega)).trans t9) (f := n) (by omega) ((u 60 7 (by omega) (by omega)).trans t7) (by omega) (G := fun k s => tly A T k s n) (fun k hk s hs => by rw [u 62 _ (by omega) (by omega)]; exact a2 k hk s hs)) ?_)
          rintro - ω ⟨hw, w7, w61, w62⟩
          have hw2 := hu2.tr (hw.mo Pf7_ff)
          have v : ∀ a k, ¬ Pf7 a k → a ≠ 65 → a ≠ 66 → ω.1 a k = τ.1 a k := fun a k z1 z2 z3 => (hw.2 a k z1).trans (u a k z2 z3)
          unfold f_X2_find_153
          refine zH_lt ?_
          rw [nI_1]
          rw [ef, if_pos rfl] at ih
          refine ih ω hw2 ((v 60 6 (by unfold Pf7; omega) (by omega) (by omega)).trans t6) ((v 60 8 (by unfold Pf7; omega) (by omega) (by omega)).trans t8) ((v 60 9 (by unfold Pf7; omega) (by omega) (by omega)).trans t9) (fun m hm => by rw [v 63 m (by unfold Pf7; omega) (by omega) (by omega), v 64 m (by unfold Pf7; omega) (by omega) (by omega)]; exact tr m hm) w7 (fun f hf e => ?_) (fun k hk s hs => ?_)
          · rw [w61]
            by_cases z : f = n
            · subst z; rw [if_pos rfl]
            · have := ct_str e (show f < n by omega)
              rw [if_neg (by omega), u 61 _ (by omega) (by omega)]
              exact a1 f (by omega) e
          · rw [w62 k hk s hs, tst, ef, Bool.true_and]
            by_cases y : digN A n k = s
            · rw [if_pos y, decide_eq_true y, if_pos rfl]
            · rw [if_neg y, decide_eq_false y, if_neg (by decide)]
    -- what is told of each matter
    have told : ∀ k, k ≤ A 4 → ∀ g, A 4 - k < g → ∀ τ, fr Pff σ τ → τ.1 60 6 = 1 → τ.1 60 8 = nI (A 6) → τ.1 60 9 = nI (2 * A 4 + 1) → rowsT A T k τ → τ.1 60 7 = 0 → (∀ j, j < 27 → τ.1 62 j = 0) → zH (f_X2_find_57 60 g (Lc b) 28 (nI (mk (rdB T) 8)) (nI k) τ) (fun _ σ' => fr Pff σ σ' ∧ σ'.1 60 6 = 1 ∧ fkn A T σ'.1) := by
      refine zup (P := fun g k => ∀ τ, fr Pff σ τ → τ.1 60 6 = 1 → τ.1 60 8 = nI (A 6) → τ.1 60 9 = nI (2 * A 4 + 1) → rowsT A T k τ → τ.1 60 7 = 0 → (∀ j, j < 27 → τ.1 62 j = 0) → zH (f_X2_find_57 60 g (Lc b) 28 (nI (mk (rdB T) 8)) (nI k) τ) _) (A 4) ?_ ?_
      · intro g τ hF t6 t8 t9 tr t7 t62
        have ht := h.ff hF
        rw [f_X2_find_57, ht.2.1.1.2.2.2.2.1]
        refine zH_ck ht.k.1 (zH_t (Int32.le_refl _) (zH_eq (C_stepOf hA t8 t9 (x := -1) (j := 0) (by rfl) (Nat.zero_le _)) (zH_lt (zH_lt ?_))))
        exact main 0 (Nat.zero_le _) FU (by unfold FU; omega) τ hF t6 t8 t9 tr t7 (fun f hf => absurd hf (Nat.not_lt_zero f)) (fun k hk s hs => t62 _ (by omega))
      · intro g k hk ih τ hF t6 t8 t9 tr t7 t62
        have ht := h.ff hF
        rw [f_X2_find_57, ht.2.1.1.2.2.2.2.1, ht.k.2.1.2.2.2.2.2.2.2.1, hF.1, r2, k63, nI_clamp (by omega)]
        have e1 := C_placesOf ht.t hT hA1.2.1 hA1.2.2.2.2.1 (rdB T) (m := k) (by omega)
        rw [rdB_ll] at e1
        refine zH_ck ht.k.1 (zH_f (nI_ge hk (by omega)) (zH_ck ht.t.1.1 (zH_eq e1 (zH_ck (zok_p (by omega) (by decide)) (zH_lt ?_)))))
        have hF1 : fr Pff σ (zpi τ 63 k (nI (mk (plE (ll T k (rd T) (T 48))) 6))) := hF.pi _ (by unfold Pff; omega)
        have ht1 := h.ff hF1
        have e2 := C_dosOf ht1.t hT hA1.2.1 hA1.2.2.2.2.1 (rdB T) (m := k) (by omega)
        rw [rdB_ll] at e2
        rw [zpi_2, ht.k.2.1.2.2.2.2.2.2.2.1, hF.1, r3, k64]
        refine zH_ck ht1.t.1.1 (zH_eq e2 (zH_ck (zok_p (by omega) (by decide)) (zH_lt (zH_lt ?_))))
        rw [nI_1]
        refine ih _ (hF1.pi _ (by unfold Pff; omega)) ?_ ?_ ?_ (fun m hm => ?_) ?_ (fun j hj => ?_)
        · rw [zpi_ne _ _ (by omega), zpi_ne _ _ (by omega)]; exact t6
        · rw [zpi_ne _ _ (by omega), zpi_ne _ _ (by omega)]; exact t8
        · rw [zpi_ne _ _ (by omega), zpi_ne _ _ (by omega)]; exact t9
        · by_cases z : m = k
          · subst z
            exact ⟨by rw [zpi_ne _ _ (by omega), zpi_eq], zpi_eq _ _ _ _⟩
          · have := tr m (by omega)
            exact ⟨by rw [zpi_ne _ _ (by omega), zpi_ne _ _ (by omega)]; exact this.1, by rw [zpi_ne _ _ (by omega), zpi_ne _ _ (by omega)]; exact this.2⟩
        · rw [zpi_ne _ _ (by omega), zpi_ne _ _ (by omega)]; exact t7
        · rw [zpi_ne _ _ (by omega), zpi_ne _ _ (by omega)]; exact t62 j hj
    have hv := Lc_v b
    rw [zpi_ne _ _ (by omega), zpi_ne _ _ (by omega), zpi_ne _ _ (by omega), zpi_ne _ _ (by omega), zpi_ne _ _ (by omega), h.2.1.1.2.2.2.2.1, h.2.1.1.2.2.2.2.2.1, sy2, zpi_2, zpi_2, zpi_2, zpi_2, r1]
    refine zH_call (C_zero62 _) ?_
    rintro - τ ⟨hu, h0⟩
    have hF : fr Pff σ τ := ((((fr_r Pff σ).pi _ (by unfold Pff; omega)).pi _ (by unfold Pff; omega)).pi _ (by unfold Pff; omega)).pi _ (by unfold Pff; omega) |>.tr (hu.mo (fun a k z => by unfold Pff; omega))
    have ht := h.ff hF
    rw [ht.k.2.1.2.2.2.2.2.2.2.1]
    refine zH_ck ht.t.1.1 (zH_eq (C_read ht.t hT hA1.2.1) (zH_lt (zH_lt ?_)))
    refine told 0 (Nat.zero_le _) FU (by unfold FU; omega) τ hF ?_ ?_ ?_ (fun m hm => absurd hm (Nat.not_lt_zero m)) ?_ h0
    · rw [hu.2 60 6 (by omega), zpi_ne _ _ (by omega), zpi_ne _ _ (by omega), zpi_ne _ _ (by omega), zpi_eq]
    · rw [hu.2 60 8 (by omega), zpi_ne _ _ (by omega), zpi_eq]
    · rw [hu.2 60 9 (by omega), zpi_eq]
    · rw [hu.2 60 7 (by omega), zpi_ne _ _ (by omega), zpi_ne _ _ (by omega), zpi_eq]
  · exact zH_f (by rw [h61]; decide) (zH_ok ⟨fr_r Pff σ, h61, hk⟩)
end FC
