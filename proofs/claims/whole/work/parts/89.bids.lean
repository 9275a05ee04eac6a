/-! bids: taken, paid, worthOf -/
theorem sm_b {f : Nat → Nat} {c : Nat} : ∀ {n : Nat}, (∀ k, k < n → f k ≤ c) → sm f n ≤ n * c
  | 0, _ => Nat.zero_le _
  | n + 1, h => by
    have i1 := sm_b (n := n) (fun k hk => h k (by omega))
    have i2 := h n (by omega)
    rw [sm, Nat.succ_mul]
    omega
theorem sm_nz {f : Nat → Nat} : ∀ {n : Nat}, sm f n ≠ 0 → ∃ k, k < n ∧ f k ≠ 0
  | 0, h => absurd rfl h
  | n + 1, h => by
    by_cases q : f n = 0
    · rw [sm, q, Nat.add_zero] at h
      obtain ⟨k, h1, h2⟩ := sm_nz h
      exact ⟨k, by omega, h2⟩
    · exact ⟨n, by omega, q⟩
def py (A : Nat → Nat) (s n : Nat) : Nat := sm (fun b => if s.testBit b then A (48 + 4 * b) else 0) n
def pyh (A : Nat → Nat) (h s n : Nat) : Nat := sm (fun b => if s.testBit b && decide (A (45 + 4 * b) = h) then A (48 + 4 * b) else 0) n
def inp (A : Nat → Nat) (p s n : Nat) : Nat := sm (fun b => if s.testBit b && decide (A (46 + 4 * b) = p) then A (47 + 4 * b) else 0) n
theorem py_le {A : Nat → Nat} (hA : vA A) (s : Nat) {n : Nat} (hn : n ≤ A 8) : py A s n ≤ 594 := by
  have h8 := hA.1
  have := sm_b (f := fun b => if s.testBit b then A (48 + 4 * b) else 0) (c := 99) (n := n) (fun k hk => by
    have := hA.2.2.2.2.2.2.2.2.1 k (by omega)
    show (if s.testBit k = true then A (48 + 4 * k) else 0) ≤ 99
    split <;> omega)
  unfold py
  omega
theorem pyh_le {A : Nat → Nat} (hA : vA A) (h s : Nat) {n : Nat} (hn : n ≤ A 8) : pyh A h s n ≤ 594 := by
  have h8 := hA.1
  have := sm_b (f := fun b => if s.testBit b && decide (A (45 + 4 * b) = h) then A (48 + 4 * b) else 0) (c := 99) (n := n) (fun k hk => by
    have := hA.2.2.2.2.2.2.2.2.1 k (by omega)
    show (if (s.testBit k && decide (A (45 + 4 * k) = h)) = true then A (48 + 4 * k) else 0) ≤ 99
    split <;> omega)
  unfold pyh
  omega
theorem inp_le {A : Nat → Nat} (hA : vA A) (p s : Nat) {n : Nat} (hn : n ≤ A 8) : inp A p s n ≤ 54 := by
  have h8 := hA.1
  have := sm_b (f := fun b => if s.testBit b && decide (A (46 + 4 * b) = p) then A (47 + 4 * b) else 0) (c := 9) (n := n) (fun k hk => by
    have := hA.2.2.2.2.2.2.2.2.1 k (by omega)
    show (if (s.testBit k && decide (A (46 + 4 * k) = p)) = true then A (47 + 4 * k) else 0) ≤ 9
    split <;> omega)
  unfold inp
  omega
def cTC (A B : Nat → Nat) (s : Nat) : Bool := al (fun p => decide (inp A p s (A 8) ≤ room A B p)) (A 1) && al (fun h => decide (pyh A h s (A 8) ≤ A (34 + h))) (A 3)
def cTMq (A B : Nat → Nat) (s b : Nat) : Bool := decide (inp A (A (46 + 4 * b)) s (A 8) ≤ room A B (A (46 + 4 * b))) && decide (pyh A (A (45 + 4 * b)) s (A 8) ≤ A (34 + A (45 + 4 * b)))
def cTM (A B : Nat → Nat) (s : Nat) : Bool := al (cTMq A B s) (A 8)
theorem cT_eq {A B : Nat → Nat} (hA : vA A) (s : Nat) : cTC A B s = cTM A B s := by
  have hb := hA.2.2.2.2.2.2.2.2.1
  rw [Bool.eq_iff_iff]
  unfold cTC cTM
  rw [Bool.and_eq_true, al_iff, al_iff, al_iff]
  constructor
  · rintro ⟨h1, h2⟩ k hk
    have := hb k hk
    unfold cTMq
    rw [h1 _ this.2.1, h2 _ this.1]
    rfl
  · intro h
    constructor
    · intro p hp
      by_cases q : inp A p s (A 8) = 0
      · rw [q]; exact decide_eq_true (Nat.zero_le _)
      · obtain ⟨k, hk, e⟩ := sm_nz q
        have e : (if (s.testBit k && decide (A (46 + 4 * k) = p)) = true then A (47 + 4 * k) else 0) ≠ 0 := e
        by_cases z : (s.testBit k && decide (A (46 + 4 * k) = p)) = true
        · rw [Bool.and_eq_true, decide_eq_true_eq] at z
          have := h k hk
          unfold cTMq at this
          rw [Bool.and_eq_true, z.2] at this
          exact this.1
        · rw [if_neg z] at e; exact absurd rfl e
    · intro p hp
      by_cases q : pyh A p s (A 8) = 0
      · rw [q]; exact decide_eq_true (Nat.zero_le _)
      · obtain ⟨k, hk, e⟩ := sm_nz q
        have e : (if (s.testBit k && decide (A (45 + 4 * k) = p)) = true then A (48 + 4 * k) else 0) ≠ 0 := e
        by_cases z : (s.testBit k && decide (A (45 + 4 * k) = p)) = true
        · rw [Bool.and_eq_true, decide_eq_true_eq] at z
          have := h k hk
          unfold cTMq at this
          rw [Bool.and_eq_true, z.2] at this
          exact this.2
        · rw [if_neg z] at e; exact absurd rfl e
/-- the best of the sets below n -/
def tkq (A B : Nat → Nat) (W t n : Nat) : Bool := decide (n &&& W = 0) && decide (py A t (A 8) < py A n (A 8)) && cTM A B n
def tk (A B : Nat → Nat) (W : Nat) : Nat → Nat
  | 0 => 0
  | n + 1 => if tkq A B W (tk A B W n) n then n else tk A B W n
theorem tk_1 (A B : Nat → Nat) (W : Nat) : tk A B W 1 = 0 := by
  show (if tkq A B W 0 0 = true then 0 else 0) = 0
  split <;> rfl
theorem tk_le (A B : Nat → Nat) (W : Nat) : ∀ n, tk A B W n ≤ n
  | 0 => Nat.le_refl _
  | n + 1 => by
    have := tk_le A B W n
    rw [tk]
    split <;> omega
theorem tk_lt (A B : Nat → Nat) (W : Nat) : ∀ n, 0 < n → tk A B W n < n
  | 0, h => by omega
  | n + 1, _ => by
    have := tk_le A B W n
    rw [tk]
    split <;> omega
theorem bx0 (k : Nat) : (45 : Int32) + (4 : Int32) * nI k = nI (45 + 4 * k) := by show nI 45 + nI 4 * nI k = _; rw [nI_mul, nI_add]
theorem bx1 (k : Nat) : nI (45 + 4 * k) + (1 : Int32) = nI (46 + 4 * k) := by rw [nI_1]; congr 1; omega
theorem bx2 (k : Nat) : nI (45 + 4 * k) + (2 : Int32) = nI (47 + 4 * k) := by show _ + nI 2 = _; rw [nI_add]; congr 1; omega
theorem bx3 (k : Nat) : nI (45 + 4 * k) + (3 : Int32) = nI (48 + 4 * k) := by show _ + nI 3 = _; rw [nI_add]; congr 1; omega
theorem px34 (k : Nat) : (34 : Int32) + nI k = nI (34 + k) := by show nI 34 + nI k = _; rw [nI_add]
theorem nI_p0 (k : Nat) : nI k + (0 : Int32) = nI k := Int32.add_zero _
section BI
variable {b : Bool} {A B T : Nat → Nat} {D : Nat → Bool} {σ : zS}
theorem C_paysOf (h : cU b A B T σ) (hA : vA A) {s : Nat} (hs : s < 64) : f_X0_paysOf (Lc b + 14) (nI s) σ = some (nI (py A s (A 8)), σ) := by
  have hA1 := hA.1
  obtain ⟨r0, r1, r2, r3⟩ := h.k.2.2.2.2.1
  obtain ⟨q0, q1, q2, q3⟩ := h.k.2.2.2.2.2.1
  have hb := h.2.1.2.2.2.2.2.2
  have h4 := h.2.1.1.2.2.2.2.2.2.2
  unfold f_X0_paysOf
  rw [zck_t h.k.2.2.2.1, zlt_e, zlt_e]
  refine zup (P := fun f k => f_X0_paysOf_4 (Lc b + 14) f (nI s) (nI (py A s k)) (nI k) σ = _) (A 8) ?_ ?_ 0 (Nat.zero_le _) FU (by unfold FU; omega)
  · intro f
    rw [f_X0_paysOf_4, h4, zbr_t (Int32.le_refl _)]
  · intro f k hk ih
    have e : py A s (k + 1) = py A s k + (if s.testBit k then A (48 + 4 * k) else 0) := rfl
    rw [f_X0_paysOf_4, h4, zbr_f (nI_ge hk (by omega)), nI_get (by omega) (by omega)]
    unfold f_X0_paysOf_30
    cases ht : s.testBit k
    · rw [ht, if_neg (by decide), Nat.add_zero] at e
      rw [e] at ih
      rw [zbr_f (by decide), zlt_e, nI_1]
      exact ih
    · rw [ht, if_pos rfl] at e
      rw [e] at ih
      rw [zbr_t (by rfl), r3, q3, zck_t (zok_p (by omega) (by decide)), nI_clamp (by omega), (hb k hk).2.2.2, zlt_e, zlt_e, nI_add, nI_1]
      exact ih
theorem C_paysBy (h : cU b A B T σ) (hA : vA A) {s p : Nat} (hs : s < 64) (hp : p < 2 ^ 31) : f_X0_paysBy (Lc b + 14) (nI p) (nI s) σ = some (nI (pyh A p s (A 8)), σ) := by
  have hA1 := hA.1
  obtain ⟨r0, r1, r2, r3⟩ := h.k.2.2.2.2.1
  obtain ⟨q0, q1, q2, q3⟩ := h.k.2.2.2.2.2.1
  have hb := h.2.1.2.2.2.2.2.2
  have h4 := h.2.1.1.2.2.2.2.2.2.2
  unfold f_X0_paysBy
  rw [zck_t h.k.2.2.2.1, zlt_e, zlt_e]
  refine zup (P := fun f k => f_X0_paysBy_5 (Lc b + 14) f (nI p) (nI s) (nI (pyh A p s k)) (nI k) σ = _) (A 8) ?_ ?_ 0 (Nat.zero_le _) FU (by unfold FU; omega)
  · intro f
    rw [f_X0_paysBy_5, h4, zbr_t (Int32.le_refl _)]
  · intro f k hk ih
    have hv := hA.2.2.2.2.2.2.2.2.1 k hk
    have e : pyh A p s (k + 1) = pyh A p s k + (if s.testBit k && decide (A (45 + 4 * k) = p) then A (48 + 4 * k) else 0) := rfl
    rw [f_X0_paysBy_5, h4, zbr_f (nI_ge hk (by omega)), nI_get (by omega) (by omega)]
    unfold f_X0_paysBy_45
    cases ht : s.testBit k
    · rw [ht, Bool.false_and, if_neg (by decide), Nat.add_zero] at e
      rw [e] at ih
      rw [zbr_f (by decide), zlt_e, nI_1]
      exact ih
    · rw [ht, Bool.true_and] at e
      rw [zbr_t (by rfl), r0, q0, zck_t (zok_p (by omega) (by decide)), nI_clamp (by omega), (hb k hk).1]
      by_cases z : A (45 + 4 * k) = p
      · rw [decide_eq_true z, if_pos rfl] at e
        rw [e] at ih
        rw [zbr_t (by rw [z]), r3, q3, zck_t (zok_p (by omega) (by decide)), (hb k hk).2.2.2, zlt_e, zlt_e, nI_add, nI_1]
        exact ih
      · rw [decide_eq_false z, if_neg (by decide), Nat.add_zero] at e
        rw [e] at ih
        rw [zbr_f (fun y => z ((nI_eq (by omega) hp).mp y)), zlt_e, nI_1]
        exact ih
theorem C_bInchesAt (h : cU b A B T σ) (hA : vA A) {s p : Nat} (hs : s < 64) (hp : p < 2 ^ 31) : f_X0_inchesAt (Lc b + 14) (nI p) (nI s) σ = some (nI (inp A p s (A 8)), σ) := by
  have hA1 := hA.1
  obtain ⟨r0, r1, r2, r3⟩ := h.k.2.2.2.2.1
  obtain ⟨q0, q1, q2, q3⟩ := h.k.2.2.2.2.2.1
  have hb := h.2.1.2.2.2.2.2.2
  have h4 := h.2.1.1.2.2.2.2.2.2.2
  unfold f_X0_inchesAt
  rw [zck_t h.k.2.2.2.1, zlt_e, zlt_e]
  refine zup (P := fun f k => f_X0_inchesAt_5 (Lc b + 14) f (nI p) (nI s) (nI (inp A p s k)) (nI k) σ = _) (A 8) ?_ ?_ 0 (Nat.zero_le _) FU (by unfold FU; omega)
  · intro f
    rw [f_X0_inchesAt_5, h4, zbr_t (Int32.le_refl _)]
  · intro f k hk ih
    have hv := hA.2.2.2.2.2.2.2.2.1 k hk
    have e : inp A p s (k + 1) = inp A p s k + (if s.testBit k && decide (A (46 + 4 * k) = p) then A (47 + 4 * k) else 0) := rfl
    rw [f_X0_inchesAt_5, h4, zbr_f (nI_ge hk (by omega)), nI_get (by omega) (by omega)]
    unfold f_X0_inchesAt_45
    cases ht : s.testBit k
    · rw [ht, Bool.false_and, if_neg (by decide), Nat.add_zero] at e
      rw [e] at ih
      rw [zbr_f (by decide), zlt_e, nI_1]
      exact ih
    · rw [ht, Bool.true_and] at e
      rw [zbr_t (by rfl), r1, q1, zck_t (zok_p (by omega) (by decide)), nI_clamp (by omega), (hb k hk).2.1]
      by_cases z : A (46 + 4 * k) = p
      · rw [decide_eq_true z, if_pos rfl] at e
        rw [e] at ih
        rw [zbr_t (by rw [z]), r2, q2, zck_t (zok_p (by omega) (by decide)), (hb k hk).2.2.1, zlt_e, zlt_e, nI_add, nI_1]
        exact ih
      · rw [decide_eq_false z, if_neg (by decide), Nat.add_zero] at e
        rw [e] at ih
        rw [zbr_f (fun y => z ((nI_eq (by omega) hp).mp y)), zlt_e, nI_1]
        exact ih
theorem C_canTake (h : cU b A B T σ) (hA : vA A) (hB : vP A B) {s : Nat} (hs : s < 64) : f_X10_canTake 0 (nI s) σ = some (bI (cTC A B s), σ) := by
  have hA1 := hA.1
  have r8 : σ.2 (Lc b) 8 = Lc b + 14 := h.k.2.1.2.2.2.2.2.2.2.2
  have two : al (fun p => decide (inp A p s (A 8) ≤ room A B p)) (A 1) = true → f_X10_canTake_43 0 FU (nI s) 0 σ = some (bI (cTC A B s), σ) := by
    intro e1
    unfold cTC
    rw [e1, Bool.true_and]
    refine zup (P := fun f k => (∀ j, j < k → decide (pyh A j s (A 8) ≤ A (34 + j)) = true) → f_X10_canTake_43 0 f (nI s) (nI k) σ = _) (A 3) ?_ ?_ 0 (Nat.zero_le _) FU (by unfold FU; omega) (fun j hj => absurd hj (Nat.not_lt_zero j))
    · intro f hall
      rw [f_X10_canTake_43, h.r8, zck_t h.k.1, h.2.1.1.2.2.2.1, zbr_t (Int32.le_refl _), al_iff.mpr hall]
      rfl
    · intro f k hk ih hall
      have h34 := hA.2.2.2.2.2.1 k hk
      have hle := pyh_le hA k s (Nat.le_refl _)
      rw [f_X10_canTake_43, h.r8, zck_t h.k.1, h.2.1.1.2.2.2.1, zbr_f (nI_ge hk (by omega)), r8, zck_t h.k.2.2.2.1, C_paysBy h hA hs (by omega), zbd_s, h.r8, zck_t h.k.1, h.k.2.1.2.2.2.2.1, h.k.2.2.1.2.2.2.2.1, zck_t (zok_p (by omega) (by decide)), nI_clamp (by omega), h.2.1.2.2.2.1 k hk]
      by_cases q : pyh A k s (A 8) ≤ A (34 + k)
      · rw [zbr_t (nI_le q (by omega)), zlt_e, nI_1]
        exact ih (fun j hj => by
          by_cases z : j = k
          · subst z; exact decide_eq_true q
          · exact hall j (by omega))
      · have : al (fun h => decide (pyh A h s (A 8) ≤ A (34 + h))) (A 3) = false := by
          cases e : al (fun h => decide (pyh A h s (A 8) ≤ A (34 + h))) (A 3)
          · rfl
          · exact absurd (of_decide_eq_true (al_iff.mp e k hk)) q
        rw [zbr_f (nI_ge (by omega) (by omega)), this]
        rfl
  unfold f_X10_canTake
  rw [zck_t v0, zlt_e]
  refine zup (P := fun f k => (∀ j, j < k → decide (inp A j s (A 8) ≤ room A B j) = true) → f_X10_canTake_2 0 f (nI s) (nI k) σ = _) (A 1) ?_ ?_ 0 (Nat.zero_le _) FU (by unfold FU; omega) (fun j hj => absurd hj (Nat.not_lt_zero j))
  · intro f hall
    rw [f_X10_canTake_2, h.r8, zck_t h.k.1, h.2.1.1.2.1, zbr_t (Int32.le_refl _), zlt_e]
    exact two (al_iff.mpr hall)
  · intro f k hk ih hall
    have hr := room_9 (B := B) hA hk
    have hle := inp_le hA k s (Nat.le_refl _)
    rw [f_X10_canTake_2, h.r8, zck_t h.k.1, h.2.1.1.2.1, zbr_f (nI_ge hk (by omega)), r8, zck_t h.k.2.2.2.1, C_bInchesAt h hA hs (by omega), zbd_s, C_roomAt h hA hB hk, zbd_s]
    by_cases q : inp A k s (A 8) ≤ room A B k
    · rw [zbr_t (nI_le q (by omega)), zlt_e, nI_1]
      exact ih (fun j hj => by
        by_cases z : j = k
        · subst z; exact decide_eq_true q
        · exact hall j (by omega))
    · have : al (fun p => decide (inp A p s (A 8) ≤ room A B p)) (A 1) = false := by
        cases e : al (fun p => decide (inp A p s (A 8) ≤ room A B p)) (A 1)
        · rfl
        · exact absurd (of_decide_eq_true (al_iff.mp e k hk)) q
      unfold cTC
      rw [zbr_f (nI_ge (by omega) (by omega)), this]
      rfl
theorem C_bestBids (h : cU b A B T σ) (hA : vA A) (hB : vP A B) {W : Nat} (hW : W < 2 ^ 31) : f_X10_bestBids 0 (nI W) σ = some (nI (tk A B W (2 ^ A 8)), σ) := by
  have hA1 := hA.1
  have hpow : (2 : Nat) ^ A 8 ≤ 2 ^ 6 := Nat.pow_le_pow_right (by decide) (by omega)
  have hpow0 : 0 < (2 : Nat) ^ A 8 := Nat.pow_pos (by decide)
  have r8 : σ.2 (Lc b) 8 = Lc b + 14 := h.k.2.1.2.2.2.2.2.2.2.2
  have h4 := h.2.1.1.2.2.2.2.2.2.2
  unfold f_X10_bestBids
  rw [zck_t v0, h.r8, zck_t h.k.1, zlt_e, zlt_e, zlt_e, r8]
  suffices key : ∀ k, k ≤ 2 ^ A 8 → ∀ f, 2 ^ A 8 - k < f → 1 ≤ k → f_X10_bestBids_13 0 f (nI W) (Lc b + 14) (nI (tk A B W k)) (nI k) σ = some (nI (tk A B W (2 ^ A 8)), σ) by
    have := key 1 (by omega) FU (by unfold FU; omega) (Nat.le_refl _)
    rw [tk_1] at this
    exact this
  refine zup (P := fun f k => 1 ≤ k → f_X10_bestBids_13 0 f (nI W) (Lc b + 14) (nI (tk A B W k)) (nI k) σ = _) (2 ^ A 8) ?_ ?_
  · intro f _
    rw [f_X10_bestBids_13, zck_t h.k.2.2.2.1, h4, nI_shl1 _ (by omega), zbr_t (Int32.le_refl _)]
  · intro f k hk ih h1
    have ih := ih (by omega)
    have hl := tk_lt A B W k h1
    have p1 := py_le hA k (Nat.le_refl (A 8))
    have p2 := py_le hA (tk A B W k) (Nat.le_refl (A 8))
    have hand : k &&& W ≤ k := Nat.and_le_left
    have keep : tkq A B W (tk A B W k) k = false → f_X10_bestBids_57 0 (f_X10_bestBids_13 0 f) (nI W) (Lc b + 14) (nI (tk A B W k)) (nI k) σ = some (nI (tk A B W (2 ^ A 8)), σ) := by
      intro z
      rw [tk, z, if_neg (by decide)] at ih
      unfold f_X10_bestBids_57
      rw [zlt_e, nI_1]
      exact ih
    rw [f_X10_bestBids_13, zck_t h.k.2.2.2.1, h4, nI_shl1 _ (by omega), zbr_f (nI_ge hk (by omega)), nI_and]
    by_cases q1 : k &&& W = 0
    · rw [zbr_t (by rw [q1]; rfl), C_paysOf h hA (by omega), zbd_s, C_paysOf h hA (by omega), zbd_s]
      by_cases q2 : py A (tk A B W k) (A 8) < py A k (A 8)
      · rw [zbr_f (nI_ge q2 (by omega)), C_canTake h hA hB (by omega), zbd_s, cT_eq hA]
        cases q3 : cTM A B k
        · rw [zbr_t (by rfl)]
          exact keep (by unfold tkq; rw [q3, Bool.and_false])
        · rw [tk, if_pos (show tkq A B W (tk A B W k) k = true by unfold tkq; rw [q3, decide_eq_true q1, decide_eq_true q2]; rfl)] at ih
          rw [zbr_f (by decide), zlt_e]
          unfold f_X10_bestBids_57
          rw [zlt_e, nI_1]
          exact ih
      · rw [zbr_t (nI_le (by omega) (by omega))]
        exact keep (by unfold tkq; rw [decide_eq_false q2, Bool.and_false, Bool.false_and])
    · rw [zbr_f (show ¬ nI (k &&& W) = 0 from nI_ne0 (by omega) (by omega))]
      exact keep (by unfold tkq; rw [decide_eq_false q1, Bool.false_and, Bool.false_and])
theorem M_paysOf (h : mU A B T D σ) (hA : vA A) {s : Nat} (hs : s < 64) : f_X11_paysOf 0 (nI s) σ = some (nI (py A s (A 8)), σ) := by
  have hA1 := hA.1
  unfold f_X11_paysOf
  rw [zck_t w0, zlt_e, zlt_e]
  refine zup (P := fun f k => f_X11_paysOf_4 0 f (nI s) (nI (py A s k)) (nI k) σ = _) (A 8) ?_ ?_ 0 (Nat.zero_le _) FU (by unfold FU; omega)
  · intro f
    rw [f_X11_paysOf_4, mr15 h.1, w3, zck_t (by decide), cl8, h.2.1 8 (by omega), zbr_t (Int32.le_refl _)]
  · intro f k hk ih
    have e : py A s (k + 1) = py A s k + (if s.testBit k then A (48 + 4 * k) else 0) := rfl
    rw [f_X11_paysOf_4, mr15 h.1, w3, zck_t (by decide), cl8, h.2.1 8 (by omega), zbr_f (nI_ge hk (by omega)), M_hasBit (by omega) (by omega), zbd_s]
    unfold f_X11_paysOf_41
    cases ht : s.testBit k
    · rw [ht, if_neg (by decide), Nat.add_zero] at e
      rw [e] at ih
      rw [zbr_t (by rfl), zlt_e, zlt_e, nI_1, nI_p0]
      exact ih
    · rw [ht, if_pos rfl] at e
      rw [e] at ih
      rw [zbr_f (by decide), mr15 h.1, w3, bx0, bx3, zck_t (zok_p (by omega) (by decide)), nI_clamp (by omega), h.2.1 _ (by omega), zlt_e, zlt_e, nI_add, nI_1]
      exact ih
theorem M_canTake (h : mU A B T D σ) (hA : vA A) (hB : vP A B) {s : Nat} (hs : s < 64) : f_X11_canTake 0 (nI s) σ = some (bI (cTM A B s), σ) := by
  have hA1 := hA.1
  have inner : ∀ (H2 : Int32 → Int32 → zS → Option (Int32 × zS)) (b : Nat), b < A 8 → f_X11_canTake_21 0 H2 FU (nI s) (nI b) 0 0 0 σ = if cTMq A B s b then H2 (nI s) (nI (b + 1)) σ else some (0, σ) := by
    intro H2 b hb
    have hv := hA.2.2.2.2.2.2.2.2.1 b hb
    have h34 := hA.2.2.2.2.2.1 _ hv.1
    have hr := room_9 (B := B) hA hv.2.1
    have l1 := inp_le hA (A (46 + 4 * b)) s (Nat.le_refl (A 8))
    have l2 := pyh_le hA (A (45 + 4 * b)) s (Nat.le_refl (A 8))
    refine zup (P := fun f k => f_X11_canTake_21 0 H2 f (nI s) (nI b) (nI (inp A (A (46 + 4 * b)) s k)) (nI (pyh A (A (45 + 4 * b)) s k)) (nI k) σ = _) (A 8) ?_ ?_ 0 (Nat.zero_le _) FU (by unfold FU; omega)
    · intro f
      rw [f_X11_canTake_21, mr15 h.1, mr19 h.1, w3, zck_t (by decide), cl8, h.2.1 8 (by omega), zbr_t (Int32.le_refl _), bx0, bx1, zck_t (zok_p (by omega) (by decide)), nI_clamp (by omega), h.2.1 _ (by omega), M_room h hA hB hv.2.1, zbd_s]
      unfold cTMq
      by_cases q1 : inp A (A (46 + 4 * b)) s (A 8) ≤ room A B (A (46 + 4 * b))
      · rw [zbr_f (nI_nlt q1 (by omega)), mr15 h.1, w3, zck_t (zok_p (by omega) (by decide)), nI_clamp (by omega), h.2.1 _ (by omega), px34, zck_t (zok_p (by omega) (by decide)), nI_clamp (by omega), h.2.1 _ (by omega), decide_eq_true q1, Bool.true_and]
        by_cases q2 : pyh A (A (45 + 4 * b)) s (A 8) ≤ A (34 + A (45 + 4 * b))
        · rw [zbr_t (nI_le q2 (by omega)), decide_eq_true q2, if_pos rfl, zlt_e, nI_1]
        · rw [zbr_f (nI_ge (by omega) (by omega)), decide_eq_false q2]; rfl
      · rw [zbr_t (nI_lt (by omega) (by omega)), decide_eq_false q1, Bool.false_and]; rfl
    · intro f k hk ih
      have hw := hA.2.2.2.2.2.2.2.2.1 k hk
      have e1 : inp A (A (46 + 4 * b)) s (k + 1) = inp A (A (46 + 4 * b)) s k + (if s.testBit k && decide (A (46 + 4 * k) = A (46 + 4 * b)) then A (47 + 4 * k) else 0) := rfl
      have e2 : pyh A (A (45 + 4 * b)) s (k + 1) = pyh A (A (45 + 4 * b)) s k + (if s.testBit k && decide (A (45 + 4 * k) = A (45 + 4 * b)) then A (48 + 4 * k) else 0) := rfl
      rw [f_X11_canTake_21, mr15 h.1, w3, zck_t (by decide), cl8, h.2.1 8 (by omega), zbr_f (nI_ge hk (by omega)), M_hasBit (by omega) (by omega), zbd_s]
      cases ht : s.testBit k
      · rw [ht, Bool.false_and, if_neg (by decide), Nat.add_zero] at e1 e2
        rw [e1, e2] at ih
        unfold f_X11_canTake_145
        rw [zbr_t (by rfl), zlt_e, nI_1]
        exact ih
      · rw [ht, Bool.true_and] at e1 e2
        have pays : ∀ x : Nat, f_X11_canTake_21 0 H2 f (nI s) (nI b) (nI x) (nI (pyh A (A (45 + 4 * b)) s (k + 1))) (nI (k + 1)) σ = (if cTMq A B s b then H2 (nI s) (nI (b + 1)) σ else some (0, σ)) → ∀ y z : Nat, x = y + z → f_X11_canTake_94 0 H2 (f_X11_canTake_21 0 H2 f) (nI s) (nI b) (nI (pyh A (A (45 + 4 * b)) s k)) (nI k) (nI y) (nI z) σ = (if cTMq A B s b then H2 (nI s) (nI (b + 1)) σ else some (0, σ)) := by
          intro x ih y z exy
          unfold f_X11_canTake_94 f_X11_canTake_142 f_X11_canTake_145
          rw [zlt_e, mr15 h.1, w3, bx0, bx0, bx3, nI_clamp (by omega), nI_clamp (by omega), nI_clamp (by omega), h.2.1 _ (by omega), h.2.1 _ (by omega), h.2.1 _ (by omega), zck_t (zok_p (by omega) (by decide)), zck_t (zok_p (by omega) (by decide)), nI_add y z, ← exy]
          by_cases q : A (45 + 4 * k) = A (45 + 4 * b)
          · rw [decide_eq_true q, if_pos rfl] at e2
            rw [e2] at ih
            rw [zbr_t (by rw [q]), zck_t (zok_p (by omega) (by decide)), zlt_e, zlt_e, nI_add, nI_1]
            exact ih
          · rw [decide_eq_false q, if_neg (by decide), Nat.add_zero] at e2
            rw [e2] at ih
            rw [zbr_f (fun y => q ((nI_eq (by omega) (by omega)).mp y)), zlt_e, zlt_e, nI_p0, nI_1]
            exact ih
        rw [zbr_f (by decide), mr15 h.1, w3, bx0, bx0, bx1, bx1, bx2, zck_t (zok_p (by omega) (by decide)), zck_t (zok_p (by omega) (by decide)), nI_clamp (by omega), nI_clamp (by omega), nI_clamp (by omega), h.2.1 _ (by omega), h.2.1 _ (by omega), h.2.1 _ (by omega)]
        by_cases q : A (46 + 4 * k) = A (46 + 4 * b)
        · rw [decide_eq_true q, if_pos rfl] at e1
          rw [zbr_t (by rw [q]), zck_t (zok_p (by omega) (by decide))]
          exact pays _ ih _ _ e1
        · rw [decide_eq_false q, if_neg (by decide)] at e1
          rw [zbr_f (fun y => q ((nI_eq (by omega) (by omega)).mp y))]
          exact pays _ ih _ 0 e1
  unfold f_X11_canTake
  rw [zck_t w0, zlt_e]
  refine zup (P := fun f k => (∀ j, j < k → cTMq A B s j = true) → f_X11_canTake_2 0 f (nI s) (nI k) σ = _) (A 8) ?_ ?_ 0 (Nat.zero_le _) FU (by unfold FU; omega) (fun j hj => absurd hj (Nat.not_lt_zero j))
  · intro f hall
    rw [f_X11_canTake_2, mr15 h.1, w3, zck_t (by decide), cl8, h.2.1 8 (by omega), zbr_t (Int32.le_refl _), show cTM A B s = true from al_iff.mpr hall]
    rfl
  · intro f k hk ih hall
    rw [f_X11_canTake_2, mr15 h.1, w3, zck_t (by decide), cl8, h.2.1 8 (by omega), zbr_f (nI_ge hk (by omega)), zlt_e, zlt_e, zlt_e, inner _ k hk]
    cases q : cTMq A B s k
    · have : cTM A B s = false := by
        cases e : cTM A B s
        · rfl
        · rw [al_iff.mp e k hk] at q; cases q
      rw [this]
      rfl
    · rw [if_pos rfl]
      exact ih (fun j hj => by
        by_cases z : j = k
        · subst z; exact q
        · exact hall j (by omega))
theorem M_takenOf (h : mU A B T D σ) (hA : vA A) (hB : vP A B) {W : Nat} (hW : W < 2 ^ 31) : f_X11_takenOf 0 (nI W) σ = some (nI (tk A B W (2 ^ A 8)), σ) := by
  have hA1 := hA.1
  have hpow : (2 : Nat) ^ A 8 ≤ 2 ^ 6 := Nat.pow_le_pow_right (by decide) (by omega)
  have hpow0 : 0 < (2 : Nat) ^ A 8 := Nat.pow_pos (by decide)
  unfold f_X11_takenOf
  rw [zck_t w0, zlt_e, zlt_e]
  suffices key : ∀ k, k ≤ 2 ^ A 8 → ∀ f, 2 ^ A 8 - k < f → 1 ≤ k → f_X11_takenOf_4 0 f (nI W) (nI (tk A B W k)) (nI k) σ = some (nI (tk A B W (2 ^ A 8)), σ) by
    have := key 1 (by omega) FU (by unfold FU; omega) (Nat.le_refl _)
    rw [tk_1] at this
    exact this
  refine zup (P := fun f k => 1 ≤ k → f_X11_takenOf_4 0 f (nI W) (nI (tk A B W k)) (nI k) σ = _) (2 ^ A 8) ?_ ?_
  · intro f _
    rw [f_X11_takenOf_4, mr15 h.1, w3, zck_t (by decide), cl8, h.2.1 8 (by omega), nI_shl1 _ (by omega), zbr_t (Int32.le_refl _)]
  · intro f k hk ih h1
    have ih := ih (by omega)
    have hl := tk_lt A B W k h1
    have p1 := py_le hA k (Nat.le_refl (A 8))
    have p2 := py_le hA (tk A B W k) (Nat.le_refl (A 8))
    have hand : k &&& W ≤ k := Nat.and_le_left
    have keep : tkq A B W (tk A B W k) k = false → f_X11_takenOf_46 0 (f_X11_takenOf_4 0 f) (nI W) (nI (tk A B W k)) (nI k) σ = some (nI (tk A B W (2 ^ A 8)), σ) := by
      intro z
      rw [tk, z, if_neg (by decide)] at ih
      unfold f_X11_takenOf_46
      rw [zlt_e, nI_1]
      exact ih
    rw [f_X11_takenOf_4, mr15 h.1, w3, zck_t (by decide), cl8, h.2.1 8 (by omega), nI_shl1 _ (by omega), zbr_f (nI_ge hk (by omega)), nI_and]
    by_cases q1 : k &&& W = 0
    · rw [zbr_t (by rw [q1]; rfl), M_paysOf h hA (by omega), zbd_s, M_paysOf h hA (by omega), zbd_s]
      by_cases q2 : py A (tk A B W k) (A 8) < py A k (A 8)
      · rw [zbr_f (nI_ge q2 (by omega)), M_canTake h hA hB (by omega), zbd_s]
        cases q3 : cTM A B k
        · rw [zbr_t (by rfl)]
          exact keep (by unfold tkq; rw [q3, Bool.and_false])
        · rw [tk, if_pos (show tkq A B W (tk A B W k) k = true by unfold tkq; rw [q3, decide_eq_true q1, decide_eq_true q2]; rfl)] at ih
          rw [zbr_f (by decide), zlt_e]
          unfold f_X11_takenOf_46
          rw [zlt_e, nI_1]
          exact ih
      · rw [zbr_t (nI_le (by omega) (by omega))]
        exact keep (by unfold tkq; rw [decide_eq_false q2, Bool.and_false, Bool.false_and])
    · rw [zbr_f (show ¬ nI (k &&& W) = 0 from nI_ne0 (by omega) (by omega))]
      exact keep (by unfold tkq; rw [decide_eq_false q1, Bool.false_and, Bool.false_and])
theorem tk_64 (hA : vA A) (W : Nat) : tk A B W (2 ^ A 8) < 64 := by
  have hA1 := hA.1
  have hpow : (2 : Nat) ^ A 8 ≤ 2 ^ 6 := Nat.pow_le_pow_right (by decide) (by omega)
  have := tk_lt A B W (2 ^ A 8) (Nat.pow_pos (by decide))
  omega
end BI
theorem O_taken : zO_taken Rel := by
  intro σc σm hR
  refine hR.q (fun b A B T hA hB hT hc hm => ?_)
  have hA1 := hA.1
  have hg := hm.g
  by_cases q : A 1 = 0
  · refine ⟨-1, 1, by decide, QC_refuse ?_, QM_refuse ?_⟩
    · unfold f_X10_taken; rw [zck_t v0, C_noLetter hc hA, decide_eq_true q, zbd_s, zbr_f (by decide), C_refuse, zbd_s]
    · unfold f_X11_taken; rw [zck_t w0, M_good, zbd_s, zbr_t ((M_hl hg).mpr q), M_no, zbd_s]
  · have c1 : f_X10_bestBids 0 0 σc = _ := C_bestBids hc hA hB (W := 0) (by decide)
    have m1 : f_X11_takenOf 0 0 (gd σm) = _ := M_takenOf hg hA hB (W := 0) (by decide)
    refine ⟨nI (tk A B 0 (2 ^ A 8)), 0, by decide, QC_grant ?_, QM_pure ?_⟩
    · unfold f_X10_taken
      rw [zck_t v0, C_noLetter hc hA, decide_eq_false q, zbd_s, zbr_t (by rfl), c1, zbd_s, C_grant, zbd_s]
    · unfold f_X11_taken
      rw [zck_t w0, M_good, zbd_s, zbr_f (fun z => q ((M_hl hg).mp z)), m1, zbd_s]
theorem O_paid : zO_paid Rel := by
  intro σc σm hR
  refine hR.q (fun b A B T hA hB hT hc hm => ?_)
  have hA1 := hA.1
  have hg := hm.g
  by_cases q : A 1 = 0
  · refine ⟨-1, 1, by decide, QC_refuse ?_, QM_refuse ?_⟩
    · unfold f_X10_paid; rw [zck_t v0, C_noLetter hc hA, decide_eq_true q, zbd_s, zbr_f (by decide), C_refuse, zbd_s]
    · unfold f_X11_paid; rw [zck_t w0, M_good, zbd_s, zbr_t ((M_hl hg).mpr q), M_no, zbd_s]
  · have c1 : f_X10_bestBids 0 0 σc = _ := C_bestBids hc hA hB (W := 0) (by decide)
    have m1 : f_X11_takenOf 0 0 (gd σm) = _ := M_takenOf hg hA hB (W := 0) (by decide)
    have r8 : σc.2 (Lc b) 8 = Lc b + 14 := hc.k.2.1.2.2.2.2.2.2.2.2
    refine ⟨nI (py A (tk A B 0 (2 ^ A 8)) (A 8)), 0, by decide, QC_grant ?_, QM_pure ?_⟩
    · unfold f_X10_paid
      rw [zck_t v0, C_noLetter hc hA, decide_eq_false q, zbd_s, zbr_t (by rfl), hc.r8, zck_t hc.k.1, r8, c1, zbd_s, zck_t hc.k.2.2.2.1, C_paysOf hc hA (tk_64 hA 0), zbd_s, C_grant, zbd_s]
    · unfold f_X11_paid
      rw [zck_t w0, M_good, zbd_s, zbr_f (fun z => q ((M_hl hg).mp z)), m1, zbd_s, M_paysOf hg hA (tk_64 hA 0), zbd_s]
theorem O_worthOf : zO_worthOf Rel := by
  intro σc σm x hR
  refine hR.q (fun b A B T hA hB hT hc hm => ?_)
  have hA1 := hA.1
  have hg := hm.g
  have r8 : σc.2 (Lc b) 8 = Lc b + 14 := hc.k.2.1.2.2.2.2.2.2.2.2
  have h4 := hc.2.1.1.2.2.2.2.2.2.2
  cases hx : inR x (A 8)
  · refine ⟨-1, 1, by decide, QC_refuse ?_, QM_refuse ?_⟩
    · unfold f_X10_worthOf
      rw [zck_t v0, hc.r8, zck_t hc.k.1, r8, zck_t hc.k.2.2.2.1, h4]
      by_cases q : x < 0
      · rw [zbr_t q]; rfl
      · obtain ⟨j, hj, rfl⟩ := nI_of q
        rw [inR_n hj] at hx
        have hx := of_decide_eq_false hx
        rw [zbr_f q, zbr_f (nI_nlt (by omega) hj)]; rfl
    · unfold f_X11_worthOf
      rw [zck_t w0, M_good, zbd_s]
      by_cases q : A 1 = 0
      · rw [zbr_t ((M_hl hg).mpr q)]; rfl
      · rw [zbr_f (fun z => q ((M_hl hg).mp z)), mr15 hg.1, w3, zck_t (by decide), cl8, hg.2.1 8 (by omega), M_in0 x (by omega), zbd_s, hx, zbr_t (by rfl)]; rfl
  · obtain ⟨j, hj, rfl⟩ := inR_t hx
    have q : ¬ A 1 = 0 := fun z => by have := hA.z z; omega
    have hp : (2 : Nat) ^ j ≤ 2 ^ 6 := Nat.pow_le_pow_right (by decide) (by omega)
    have c1 : f_X10_bestBids 0 0 σc = _ := C_bestBids hc hA hB (W := 0) (by decide)
    have m1 : f_X11_takenOf 0 0 (gd σm) = _ := M_takenOf hg hA hB (W := 0) (by decide)
    refine ⟨nI (py A (tk A B 0 (2 ^ A 8)) (A 8)) - nI (py A (tk A B (2 ^ j) (2 ^ A 8)) (A 8)), 0, by decide, QC_grant ?_, QM_pure ?_⟩
    · unfold f_X10_worthOf
      rw [zck_t v0, hc.r8, zck_t hc.k.1, r8, zck_t hc.k.2.2.2.1, h4, zbr_f (nI_pos (by omega)), zbr_t (nI_lt hj (by omega)), zlt_e, c1, zbd_s, zck_t hc.k.2.2.2.1, C_paysOf hc hA (tk_64 hA 0), zbd_s, nI_shl1 j (by omega), C_bestBids hc hA hB (by omega), zbd_s, C_paysOf hc hA (tk_64 hA _), zbd_s, C_grant, zbd_s]
    · unfold f_X11_worthOf
      rw [zck_t w0, M_good, zbd_s, zbr_f (fun z => q ((M_hl hg).mp z)), mr15 hg.1, w3, zck_t (by decide), cl8, hg.2.1 8 (by omega), M_in0 _ (by omega), zbd_s, hx, zbr_f (by decide), m1, zbd_s, M_paysOf hg hA (tk_64 hA 0), zbd_s, nI_shl1 j (by omega), M_takenOf hg hA hB (by omega), zbd_s, M_paysOf hg hA (tk_64 hA _), zbd_s]
