/-! the class's page and order, read -/
def sm (f : Nat → Nat) : Nat → Nat
  | 0 => 0
  | n + 1 => sm f n + f n
def oN : Option Nat → Int32
  | some k => nI k
  | none => -1
def pK (c : Nat) (R : Nat → Nat → Nat) : Prop := WC.2 c = (6, 0) ∧ (R c 0 = c + 1 ∧ R c 1 = c + 2 ∧ R c 2 = c + 3 ∧ R c 3 = c + 4 ∧ R c 4 = c + 5) ∧ WC.2 (c + 1) = (100, 8) ∧ WC.2 (c + 2) = (100, 8) ∧ WC.2 (c + 3) = (100, 8) ∧ WC.2 (c + 4) = (100, 8) ∧ WC.2 (c + 5) = (100, 8)
def skB (B : Nat → Nat) (k : Nat) : Bool := decide (k < B 48) && decide (B (6 * k + 5) = 1)
def pI (c : Nat) (B : Nat → Nat) (i : Nat → Nat → Int32) : Prop := i c 5 = nI (B 48) ∧ i c 6 = nI (mk (skB B) 8) ∧ i c 7 = nI (B 49) ∧
  ∀ k, k < B 48 → i (c + 1) k = nI (B (6 * k)) ∧ i (c + 2) k = nI (B (6 * k + 1)) ∧ i (c + 3) k = nI (B (6 * k + 2)) ∧ i (c + 4) k = nI (B (6 * k + 3)) ∧ i (c + 5) k = nI (B (6 * k + 4))
def pC (c : Nat) (B : Nat → Nat) (σ : zS) : Prop := pK c σ.2 ∧ pI c B σ.1
theorem pK_17 (b : Bool) : pK 17 (RC b) := by simp only [pK, RCs, WCs, and_self, Nat.reduceAdd]
theorem pK_77 (b : Bool) : pK 77 (RC b) := by simp only [pK, RCs, WCs, and_self, Nat.reduceAdd]
theorem pK_32 (b : Bool) : pK 32 (RC b) := by simp only [pK, RCs, WCs, and_self, Nat.reduceAdd]
theorem pK_39 (b : Bool) : pK 39 (RC b) := by simp only [pK, RCs, WCs, and_self, Nat.reduceAdd]
theorem pK_45 (b : Bool) : pK 45 (RC b) := by simp only [pK, RCs, WCs, and_self, Nat.reduceAdd]
theorem pK_51 (b : Bool) : pK 51 (RC b) := by simp only [pK, RCs, WCs, and_self, Nat.reduceAdd]
def rd (B : Nat → Nat) (k : Nat) : Bool := decide (B (6 * k + 5) = 0) && !(B 49).testBit (B (6 * k + 1))
def rdB (B : Nat → Nat) (k : Nat) : Bool := decide (k < B 48) && rd B k
theorem mk_w {F : Nat → Bool} {n w : Nat} (h : n ≤ w) : mk F n = mk (fun k => decide (k < n) && F k) w := by
  apply Nat.eq_of_testBit_eq
  intro i
  rw [mk_tb, mk_tb]
  by_cases hi : i < n
  · simp [hi, Nat.lt_of_lt_of_le hi h]
  · simp [hi]
section CP
variable {c : Nat} {A B : Nat → Nat} {σ : zS}
theorem C_linesAt (h : pC c B σ) (hB : B 48 ≤ 8) (hb : ∀ k, k < B 48 → B (6 * k + 1) < 2 ^ 31) {p : Nat} (hp : p < 2 ^ 31) : f_X6_linesAt c (nI p) σ = some (nI (mk (fun k => decide (B (6 * k + 1) = p)) (B 48)), σ) := by
  obtain ⟨⟨hc, hr, hw⟩, h5, h6, h7, hrow⟩ := h
  unfold f_X6_linesAt
  rw [zck_t hc, zlt_e, zlt_e]
  refine zup (P := fun f k => f_X6_linesAt_4 c f (nI p) (nI (mk (fun k => decide (B (6 * k + 1) = p)) k)) (nI k) σ = _) (B 48) ?_ ?_ 0 (Nat.zero_le _) FU (by unfold FU; omega)
  · intro f
    rw [f_X6_linesAt_4, h5, zbr_t (Int32.le_refl _)]
  · intro f k hk ih
    rw [f_X6_linesAt_4, h5, zbr_f (nI_ge hk (by omega)), hr.2.1, hw.2.1, zck_t (zok_p (by omega) (by decide)), nI_clamp (by omega), (hrow k hk).2.1]
    by_cases hq : B (6 * k + 1) = p
    · rw [zbr_t (by rw [hq]), zlt_e, m_step (by omega) (decide_eq_true hq)]
      unfold f_X6_linesAt_28
      rw [zlt_e, nI_1]
      exact ih
    · rw [zbr_f (fun e => hq ((nI_eq (hb k hk) hp).mp e))]
      rw [mk_sf (decide_eq_false hq)] at ih
      unfold f_X6_linesAt_28
      rw [zlt_e, nI_1]
      exact ih
theorem C_linesBy (h : pC c B σ) (hB : B 48 ≤ 8) (hb : ∀ k, k < B 48 → B (6 * k) < 2 ^ 31) {p : Nat} (hp : p < 2 ^ 31) : f_X6_linesBy c (nI p) σ = some (nI (mk (fun k => decide (B (6 * k) = p)) (B 48)), σ) := by
  obtain ⟨⟨hc, hr, hw⟩, h5, h6, h7, hrow⟩ := h
  unfold f_X6_linesBy
  rw [zck_t hc, zlt_e, zlt_e]
  refine zup (P := fun f k => f_X6_linesBy_4 c f (nI p) (nI (mk (fun k => decide (B (6 * k) = p)) k)) (nI k) σ = _) (B 48) ?_ ?_ 0 (Nat.zero_le _) FU (by unfold FU; omega)
  · intro f
    rw [f_X6_linesBy_4, h5, zbr_t (Int32.le_refl _)]
  · intro f k hk ih
    rw [f_X6_linesBy_4, h5, zbr_f (nI_ge hk (by omega)), hr.1, hw.1, zck_t (zok_p (by omega) (by decide)), nI_clamp (by omega), (hrow k hk).1]
    by_cases hq : B (6 * k) = p
    · rw [zbr_t (by rw [hq]), zlt_e, m_step (by omega) (decide_eq_true hq)]
      unfold f_X6_linesBy_28
      rw [zlt_e, nI_1]
      exact ih
    · rw [zbr_f (fun e => hq ((nI_eq (hb k hk) hp).mp e))]
      rw [mk_sf (decide_eq_false hq)] at ih
      unfold f_X6_linesBy_28
      rw [zlt_e, nI_1]
      exact ih
theorem C_linesOf (h : pC c B σ) (hB : B 48 ≤ 8) (hb : ∀ k, k < B 48 → B (6 * k + 2) < 2 ^ 31) {p : Nat} (hp : p < 2 ^ 31) : f_X6_linesOf c (nI p) σ = some (nI (mk (fun k => decide (B (6 * k + 2) = p)) (B 48)), σ) := by
  obtain ⟨⟨hc, hr, hw⟩, h5, h6, h7, hrow⟩ := h
  unfold f_X6_linesOf
  rw [zck_t hc, zlt_e, zlt_e]
  refine zup (P := fun f k => f_X6_linesOf_4 c f (nI p) (nI (mk (fun k => decide (B (6 * k + 2) = p)) k)) (nI k) σ = _) (B 48) ?_ ?_ 0 (Nat.zero_le _) FU (by unfold FU; omega)
  · intro f
    rw [f_X6_linesOf_4, h5, zbr_t (Int32.le_refl _)]
  · intro f k hk ih
    rw [f_X6_linesOf_4, h5, zbr_f (nI_ge hk (by omega)), hr.2.2.1, hw.2.2.1, zck_t (zok_p (by omega) (by decide)), nI_clamp (by omega), (hrow k hk).2.2.1]
    by_cases hq : B (6 * k + 2) = p
    · rw [zbr_t (by rw [hq]), zlt_e, m_step (by omega) (decide_eq_true hq)]
      unfold f_X6_linesOf_28
      rw [zlt_e, nI_1]
      exact ih
    · rw [zbr_f (fun e => hq ((nI_eq (hb k hk) hp).mp e))]
      rw [mk_sf (decide_eq_false hq)] at ih
      unfold f_X6_linesOf_28
      rw [zlt_e, nI_1]
      exact ih
theorem C_inchesAt (h : pC c B σ) (hB : B 48 ≤ 8) (hb : ∀ k, k < B 48 → B (6 * k + 1) < 2 ^ 31) {p : Nat} (hp : p < 2 ^ 31) : f_X6_inchesAt c (nI p) σ = some (nI (sm (fun k => if B (6 * k + 1) = p then B (6 * k + 4) else 0) (B 48)), σ) := by
  obtain ⟨⟨hc, hr, hw⟩, h5, h6, h7, hrow⟩ := h
  unfold f_X6_inchesAt
  rw [zck_t hc, zlt_e, zlt_e]
  refine zup (P := fun f k => f_X6_inchesAt_4 c f (nI p) (nI (sm (fun k => if B (6 * k + 1) = p then B (6 * k + 4) else 0) k)) (nI k) σ = _) (B 48) ?_ ?_ 0 (Nat.zero_le _) FU (by unfold FU; omega)
  · intro f
    rw [f_X6_inchesAt_4, h5, zbr_t (Int32.le_refl _)]
  · intro f k hk ih
    rw [f_X6_inchesAt_4, h5, zbr_f (nI_ge hk (by omega)), hr.2.1, hw.2.1, zck_t (zok_p (by omega) (by decide)), nI_clamp (by omega), (hrow k hk).2.1]
    by_cases hq : B (6 * k + 1) = p
    · rw [sm, if_pos hq, ← nI_add] at ih
      rw [zbr_t (by rw [hq]), hr.2.2.2.2, hw.2.2.2.2, zck_t (zok_p (by omega) (by decide)), (hrow k hk).2.2.2.2, zlt_e]
      unfold f_X6_inchesAt_31
      rw [zlt_e, nI_1]
      exact ih
    · rw [sm, if_neg hq, Nat.add_zero] at ih
      rw [zbr_f (fun e => hq ((nI_eq (hb k hk) hp).mp e))]
      unfold f_X6_inchesAt_31
      rw [zlt_e, nI_1]
      exact ih
theorem C_read (h : pC c B σ) (hB : vB A B) (hA : A 1 ≤ 6) : f_X6_read c σ = some (nI (mk (rdB B) 8), σ) := by
  obtain ⟨⟨hc, hr, hw⟩, h5, h6, h7, hrow⟩ := h
  obtain ⟨h8, hf, hl⟩ := hB
  have hf2 : B 49 < 2 ^ 31 := Nat.lt_of_lt_of_le hf (Nat.pow_le_pow_right (by decide) (by omega))
  unfold f_X6_read
  rw [zck_t hc, zlt_e, zlt_e, show mk (rdB B) 8 = mk (rd B) (B 48) from (mk_w h8).symm]
  refine zup (P := fun f k => f_X6_read_4 c f (nI (mk (rd B) k)) (nI k) σ = _) (B 48) ?_ ?_ 0 (Nat.zero_le _) FU (by unfold FU; omega)
  · intro f
    rw [f_X6_read_4, h5, zbr_t (Int32.le_refl _)]
  · intro f k hk ih
    have hl1 := hl k hk
    have e6 : skB B k = decide (B (6 * k + 5) = 1) := by unfold skB; rw [decide_eq_true hk, Bool.true_and]
    rw [f_X6_read_4, h5, zbr_f (nI_ge hk (by omega)), h6, m_get (by omega) (by omega), e6]
    by_cases hs : B (6 * k + 5) = 1
    · have er : rd B k = false := by unfold rd; rw [decide_eq_false (by omega), Bool.false_and]
      rw [mk_sf er] at ih
      rw [zbr_f (by rw [bI_0, decide_eq_true hs]; decide)]
      unfold f_X6_read_45
      rw [zlt_e, nI_1]
      exact ih
    · rw [zbr_t (by rw [bI_0, decide_eq_false hs]), hr.2.1, hw.2.1, zck_t (zok_p (by omega) (by decide)), nI_clamp (by omega), (hrow k hk).2.1, h7, nI_get hf2 (by omega)]
      cases ht : (B 49).testBit (B (6 * k + 1))
      · have er : rd B k = true := by unfold rd; rw [decide_eq_true (by omega), ht]; rfl
        rw [zbr_t (by decide), zlt_e, m_step (by omega) er]
        unfold f_X6_read_45
        rw [zlt_e, nI_1]
        exact ih
      · have er : rd B k = false := by unfold rd; rw [ht, Bool.not_true, Bool.and_false]
        rw [mk_sf er] at ih
        rw [zbr_f (by decide)]
        unfold f_X6_read_45
        rw [zlt_e, nI_1]
        exact ih
theorem C_placesOf (h : pC c B σ) (hB : vB A B) (hA : A 1 ≤ 6) (hA4 : A 4 ≤ 4) (S : Nat → Bool) {m : Nat} (hm : m < 2 ^ 31) : f_X6_placesOf c (nI m) (nI (mk S 8)) σ = some (nI (mk (plE (ll B m S (B 48))) 6), σ) := by
  obtain ⟨⟨hc, hr, hw⟩, h5, h6, h7, hrow⟩ := h
  obtain ⟨h8, hf, hl⟩ := hB
  unfold f_X6_placesOf
  rw [zck_t hc, zlt_e, zlt_e]
  suffices key : f_X6_placesOf_5 c FU (nI m) (nI (mk S 8)) (nI (mk (plE (ll B m S 0)) 6)) (nI 0) σ = some (nI (mk (plE (ll B m S (B 48))) 6), σ) by
    rw [show plE (ll B m S 0) = fun _ => false from rfl, mk_e] at key
    exact key
  refine zup (P := fun f k => f_X6_placesOf_5 c f (nI m) (nI (mk S 8)) (nI (mk (plE (ll B m S k)) 6)) (nI k) σ = _) (B 48) ?_ ?_ 0 (Nat.zero_le _) FU (by unfold FU; omega)
  · intro f
    rw [f_X6_placesOf_5, h5, zbr_t (Int32.le_refl _)]
  · intro f k hk ih
    have hl1 := hl k hk
    rw [f_X6_placesOf_5, h5, zbr_f (nI_ge hk (by omega)), m_get (by omega) (by omega)]
    cases hS : S k
    · rw [ll_f (by simp [hS])] at ih
      rw [zbr_f (by decide)]
      unfold f_X6_placesOf_47
      rw [zlt_e, nI_1]
      exact ih
    · rw [zbr_t (by decide), hr.2.2.1, hw.2.2.1, zck_t (zok_p (by omega) (by decide)), nI_clamp (by omega), (hrow k hk).2.2.1]
      by_cases hq : B (6 * k + 2) = m
      · rw [ll_t hq hS] at ih
        rw [zbr_t (by rw [hq]), hr.2.1, hw.2.1, zck_t (zok_p (by omega) (by decide)), (hrow k hk).2.1, zlt_e, m_set (by omega) (by omega)]
        unfold f_X6_placesOf_47
        rw [zlt_e, nI_1, show (fun j => plE (ll B m S k) j || decide (j = B (6 * k + 1))) = plE (ap (ll B m S k) (B (6 * k + 1), B (6 * k + 3), k)) from funext fun j => by rw [plE_ap]; congr 1; exact decide_eq_decide.mpr ⟨Eq.symm, Eq.symm⟩]
        exact ih
      · rw [ll_f (fun z => hq z.1)] at ih
        rw [zbr_f (fun e => hq ((nI_eq (by omega) hm).mp e))]
        unfold f_X6_placesOf_47
        rw [zlt_e, nI_1]
        exact ih
theorem C_dosOf (h : pC c B σ) (hB : vB A B) (hA : A 1 ≤ 6) (hA4 : A 4 ≤ 4) (S : Nat → Bool) {m : Nat} (hm : m < 2 ^ 31) : f_X6_dosOf c (nI m) (nI (mk S 8)) σ = some (nI (mk (dsE (ll B m S (B 48))) 6), σ) := by
  obtain ⟨⟨hc, hr, hw⟩, h5, h6, h7, hrow⟩ := h
  obtain ⟨h8, hf, hl⟩ := hB
  unfold f_X6_dosOf
  rw [zck_t hc, zlt_e, zlt_e]
  suffices key : f_X6_dosOf_5 c FU (nI m) (nI (mk S 8)) (nI (mk (dsE (ll B m S 0)) 6)) (nI 0) σ = some (nI (mk (dsE (ll B m S (B 48))) 6), σ) by
    rw [show dsE (ll B m S 0) = fun _ => false from rfl, mk_e] at key
    exact key
  refine zup (P := fun f k => f_X6_dosOf_5 c f (nI m) (nI (mk S 8)) (nI (mk (dsE (ll B m S k)) 6)) (nI k) σ = _) (B 48) ?_ ?_ 0 (Nat.zero_le _) FU (by unfold FU; omega)
  · intro f
    rw [f_X6_dosOf_5, h5, zbr_t (Int32.le_refl _)]
  · intro f k hk ih
    have hl1 := hl k hk
    rw [f_X6_dosOf_5, h5, zbr_f (nI_ge hk (by omega)), m_get (by omega) (by omega)]
    cases hS : S k
    · rw [ll_f (by simp [hS])] at ih
      rw [zbr_f (by decide)]
      unfold f_X6_dosOf_71
      rw [zlt_e, nI_1]
      exact ih
    · rw [zbr_t (by decide), hr.2.2.1, hw.2.2.1, zck_t (zok_p (by omega) (by decide)), nI_clamp (by omega), (hrow k hk).2.2.1]
      by_cases hq : B (6 * k + 2) = m
      · rw [ll_t hq hS] at ih
        rw [zbr_t (by rw [hq]), hr.2.1, hw.2.1, zck_t (zok_p (by omega) (by decide)), (hrow k hk).2.1, zlt_e, hr.2.2.2.1, hw.2.2.2.1, zck_t (zok_p (by omega) (by decide)), (hrow k hk).2.2.2.1]
        unfold f_X6_dosOf_70
        unfold f_X6_dosOf_71
        by_cases hs : B (6 * k + 3) = 1
        · rw [zbr_t (by rw [hs]; decide), zlt_e, zlt_e, nI_1, m_set (by omega) (by omega), show (fun j => dsE (ll B m S k) j || decide (j = B (6 * k + 1))) = dsE (ap (ll B m S k) (B (6 * k + 1), B (6 * k + 3), k)) from funext fun j => by
            rw [dsE_ap]
            by_cases e : B (6 * k + 1) = j
            · simp [e, hs]
            · simp [e, Ne.symm e]]
          exact ih
        · rw [zbr_f (by rw [show (1 : Int32) = nI 1 from rfl, nI_eq (by omega) (by decide)]; exact hs), zlt_e, zlt_e, nI_1, m_bit (n := 6) (by omega) (by omega), m_andn (by omega), show (fun j => dsE (ll B m S k) j && !decide (j = B (6 * k + 1))) = dsE (ap (ll B m S k) (B (6 * k + 1), B (6 * k + 3), k)) from funext fun j => by
            rw [dsE_ap]
            by_cases e : B (6 * k + 1) = j
            · simp [e, hs]
            · simp [e, Ne.symm e]]
          exact ih
      · rw [ll_f (fun z => hq z.1)] at ih
        rw [zbr_f (fun e => hq ((nI_eq (by omega) hm).mp e))]
        unfold f_X6_dosOf_71
        rw [zlt_e, nI_1]
        exact ih
theorem C_latestAt (h : pC c B σ) (hB : vB A B) (hA : A 1 ≤ 6) (hA4 : A 4 ≤ 4) (S : Nat → Bool) {p m : Nat} (hp : p < 2 ^ 31) (hm : m < 2 ^ 31) : f_X6_latestAt c (nI p) (nI m) (nI (mk S 8)) σ = some (oI (la' (fun k => S k && decide (B (6 * k + 2) = m) && decide (B (6 * k + 1) = p)) (B 48)), σ) := by
  obtain ⟨⟨hc, hr, hw⟩, h5, h6, h7, hrow⟩ := h
  obtain ⟨h8, hf, hl⟩ := hB
  unfold f_X6_latestAt
  rw [zck_t hc, zlt_e, h5]
  have key : ∀ k, k ≤ B 48 → ∀ f, k < f → f_X6_latestAt_8 c f (nI p) (nI m) (nI (mk S 8)) (nI k - 1) σ = some (oI (la' (fun k => S k && decide (B (6 * k + 2) = m) && decide (B (6 * k + 1) = p)) k), σ) := by
    intro k
    induction k with
    | zero =>
      intro _ f hf
      obtain ⟨f, rfl⟩ : ∃ g, f = g + 1 := ⟨f - 1, by omega⟩
      rw [f_X6_latestAt_8, zbr_t (by decide)]
      rfl
    | succ k ih =>
      intro hk f hf
      obtain ⟨f, rfl⟩ : ∃ g, f = g + 1 := ⟨f - 1, by omega⟩
      have hl1 := hl k (by omega)
      have ih := ih (by omega) f (by omega)
      rw [f_X6_latestAt_8, nI_pred, zbr_f (nI_pos (by omega)), m_get (by omega) (by omega)]
      have ex : f_X6_latestAt_48 c (f_X6_latestAt_8 c f) (nI p) (nI m) (nI (mk S 8)) (nI k) σ = some (oI (la' (fun k => S k && decide (B (6 * k + 2) = m) && decide (B (6 * k + 1) = p)) k), σ) := by
        unfold f_X6_latestAt_48
        rw [zlt_e, ← Int32.sub_eq_add_neg]
        exact ih
      rw [la']
      cases hS : S k
      · rw [zbr_f (by decide), if_neg (by simp)]
        exact ex
      · rw [zbr_t (by decide), hr.2.2.1, hw.2.2.1, zck_t (zok_p (by omega) (by decide)), nI_clamp (by omega), (hrow k (by omega)).2.2.1]
        by_cases hq : B (6 * k + 2) = m
        · rw [zbr_t (by rw [hq]), hr.2.1, hw.2.1, zck_t (zok_p (by omega) (by decide)), (hrow k (by omega)).2.1]
          by_cases hq2 : B (6 * k + 1) = p
          · rw [zbr_t (by rw [hq2]), if_pos (by simp [hq, hq2])]
            rfl
          · rw [zbr_f (fun e => hq2 ((nI_eq (by omega) hp).mp e)), if_neg (by simp [hq2])]
            exact ex
        · rw [zbr_f (fun e => hq ((nI_eq (by omega) hm).mp e)), if_neg (by simp [hq])]
          exact ex
  exact key (B 48) (Nat.le_refl _) FU (by unfold FU; omega)
end CP
/-- an order: o on np places -/
def oK (a : Nat) (R : Nat → Nat → Nat) : Prop := WC.2 a = (5, 0) ∧ R a 0 = a + 1 ∧ WC.2 (a + 1) = (100, 6)
def oJ (a : Nat) (o : Nat → Nat → Bool) (np : Nat) (i : Nat → Nat → Int32) : Prop := i a 1 = nI np ∧ ∀ p, p < np → i (a + 1) p = nI (mk (fun q => decide (q < np) && o p q) 6)
def oC (a : Nat) (o : Nat → Nat → Bool) (np : Nat) (σ : zS) : Prop := oK a σ.2 ∧ oJ a o np σ.1
theorem oK_28 (b : Bool) : oK 28 (RC b) := by simp only [oK, RCs, WCs, and_self, Nat.reduceAdd]
theorem oK_30 (b : Bool) : oK 30 (RC b) := by simp only [oK, RCs, WCs, and_self, Nat.reduceAdd]
theorem C_unbeaten {a np : Nat} {o : Nat → Nat → Bool} {σ : zS} {M : Nat → Bool} (h : oC a o np σ) (hn : np ≤ 6) (hM : ∀ q, np ≤ q → q < 6 → M q = false) : f_X5_unbeaten a (nI (mk M 6)) σ = some (oN (ubp o np M), σ) := by
  obtain ⟨⟨hc, hr, hw⟩, h1, hrow⟩ := h
  unfold f_X5_unbeaten
  rw [zck_t hc, zlt_e]
  refine zup (P := fun f k => (∀ j, j < k → ubpq o np M j = false) → f_X5_unbeaten_2 a f (nI (mk M 6)) (nI k) σ = _) np ?_ ?_ 0 (Nat.zero_le _) FU (by unfold FU; omega) (fun j hj => absurd hj (Nat.not_lt_zero j))
  · intro f hall
    rw [f_X5_unbeaten_2, h1, zbr_t (Int32.le_refl _), show ubp o np M = none from fi_none.mpr hall]
    rfl
  · intro f k hk ih hall
    have nxt : ubpq o np M k = false → f_X5_unbeaten_39 a (f_X5_unbeaten_2 a f) (nI (mk M 6)) (nI k) σ = some (oN (ubp o np M), σ) := by
      intro e
      unfold f_X5_unbeaten_39
      rw [zlt_e, nI_1]
      exact ih (fun j hj => by
        by_cases q : j = k
        · subst q; exact e
        · exact hall j (by omega))
    rw [f_X5_unbeaten_2, h1, zbr_f (nI_ge hk (by omega)), zlt_e, m_bit (n := 6) (by omega) (by omega), m_and]
    cases hMk : M k
    · rw [zbr_t ((m_0 (by omega)).mpr (fun j hj => by
        by_cases q : j = k
        · subst q; simp [hMk]
        · simp [q]))]
      exact nxt (by unfold ubpq; rw [hMk, Bool.false_and])
    · rw [zbr_f (fun e => by
        have := (m_0 (by omega)).mp e k (by omega)
        simp [hMk] at this), hr, hw, zck_t (zok_p (by omega) (by decide)), nI_clamp (by omega), hrow k hk, m_andn (by omega), m_andn (by omega)]
      by_cases hu : ubpq o np M k = true
      · have h2 := ubpq_iff.mp hu
        rw [zbr_t ((m_0 (by omega)).mpr (fun j hj => by
          by_cases q : j = k
          · simp [q]
          · by_cases hMj : M j = true
            · by_cases hjn : j < np
              · simp [hjn, h2.2 j hjn hMj q]
              · rw [hM j (by omega) hj] at hMj; cases hMj
            · simp [hMj]))]
        rw [show ubp o np M = some k from fi_iff.mpr ⟨hk, hu, hall⟩]
        rfl
      · rw [zbr_f (fun e => hu (ubpq_iff.mpr ⟨hMk, fun q hq hMq hne => by
          have := (m_0 (by omega)).mp e q (by omega)
          simpa [hMq, hne, hq] using this⟩))]
        exact nxt (by simpa using hu)
theorem C_outcome {a np : Nat} {o : Nat → Nat → Bool} {σ : zS} {M d : Nat → Bool} (h : oC a o np σ) (hn : np ≤ 6) (hM : ∀ q, np ≤ q → q < 6 → M q = false) : f_X5_outcome a (nI (mk M 6)) (nI (mk d 6)) σ = some (oI (vdp o np M d), σ) := by
  have h0 := h
  obtain ⟨⟨hc, hr, hw⟩, h1, hrow⟩ := h
  unfold f_X5_outcome
  rw [zck_t hc, C_unbeaten h0 hn hM, zbd_s, zlt_e]
  unfold vdp
  cases e : ubp o np M with
  | none => rw [zbr_t (by rfl)]; rfl
  | some p =>
    have hp := (fi_iff.mp e).1
    rw [zbr_f (by exact nI_m1 (by omega))]
    show some ((nI (mk d 6) >>> (nI p &&& 31)) &&& 1, σ) = _
    rw [m_get (by omega) (by omega), bI_nI]
    rfl
