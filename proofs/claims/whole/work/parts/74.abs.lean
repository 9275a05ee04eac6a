/-! first, last, some, all of the first n -/
def an (P : Nat → Bool) : Nat → Bool
  | 0 => false
  | n + 1 => an P n || P n
def al (P : Nat → Bool) : Nat → Bool
  | 0 => true
  | n + 1 => al P n && P n
def fi (P : Nat → Bool) : Nat → Option Nat
  | 0 => none
  | n + 1 => match fi P n with
    | some k => some k
    | none => if P n then some n else none
def la' (P : Nat → Bool) : Nat → Option Nat
  | 0 => none
  | n + 1 => if P n then some n else la' P n
theorem an_iff {P : Nat → Bool} : ∀ {n : Nat}, an P n = true ↔ ∃ k, k < n ∧ P k = true
  | 0 => ⟨fun h => by simp [an] at h, fun ⟨k, h, _⟩ => absurd h (Nat.not_lt_zero k)⟩
  | n + 1 => by
    rw [an, Bool.or_eq_true, an_iff]
    constructor
    · rintro (⟨k, h, e⟩ | h)
      · exact ⟨k, by omega, e⟩
      · exact ⟨n, by omega, h⟩
    · rintro ⟨k, h, e⟩
      by_cases hk : k = n
      · subst hk; exact Or.inr e
      · exact Or.inl ⟨k, by omega, e⟩
theorem al_iff {P : Nat → Bool} : ∀ {n : Nat}, al P n = true ↔ ∀ k, k < n → P k = true
  | 0 => ⟨fun _ k h => absurd h (Nat.not_lt_zero k), fun _ => rfl⟩
  | n + 1 => by
    rw [al, Bool.and_eq_true, al_iff]
    constructor
    · rintro ⟨h, e⟩ k hk
      by_cases hn : k = n
      · subst hn; exact e
      · exact h k (by omega)
    · intro h
      exact ⟨fun k hk => h k (by omega), h n (by omega)⟩
theorem an_false {P : Nat → Bool} {n : Nat} : an P n = false ↔ ∀ k, k < n → P k = false := by
  rw [← Bool.not_eq_true, an_iff]
  constructor
  · intro h k hk
    cases e : P k
    · rfl
    · exact absurd ⟨k, hk, e⟩ h
  · rintro h ⟨k, hk, e⟩
    rw [h k hk] at e
    cases e
theorem an_cong {P Q : Nat → Bool} : ∀ {n : Nat}, (∀ k, k < n → P k = Q k) → an P n = an Q n
  | 0, _ => rfl
  | n + 1, h => by rw [an, an, h n (by omega), an_cong (fun k hk => h k (by omega))]
theorem al_cong {P Q : Nat → Bool} : ∀ {n : Nat}, (∀ k, k < n → P k = Q k) → al P n = al Q n
  | 0, _ => rfl
  | n + 1, h => by rw [al, al, h n (by omega), al_cong (fun k hk => h k (by omega))]
theorem fi_cong {P Q : Nat → Bool} : ∀ {n : Nat}, (∀ k, k < n → P k = Q k) → fi P n = fi Q n
  | 0, _ => rfl
  | n + 1, h => by rw [fi, fi, h n (by omega), fi_cong (fun k hk => h k (by omega))]
theorem fi_iff {P : Nat → Bool} : ∀ {n : Nat} {k : Nat}, fi P n = some k ↔ k < n ∧ P k = true ∧ ∀ j, j < k → P j = false
  | 0, k => ⟨fun h => by simp [fi] at h, fun h => absurd h.1 (Nat.not_lt_zero k)⟩
  | n + 1, k => by
    rw [fi]
    cases e : fi P n with
    | some k' =>
      have h1 := fi_iff.mp e
      simp only [Option.some.injEq]
      constructor
      · rintro rfl
        exact ⟨by omega, h1.2⟩
      · rintro ⟨h2, h3, h4⟩
        rcases Nat.lt_trichotomy k k' with q | q | q
        · have := h1.2.2 k q
          rw [h3] at this; cases this
        · exact q.symm
        · have := h4 k' q
          rw [h1.2.1] at this; cases this
    | none =>
      have h1 : ∀ j, j < n → P j = false := by
        intro j hj
        cases e2 : P j
        · rfl
        · exfalso
          have key : ∀ m, m ≤ n → (∀ i, i < m → P i = false) ∨ ∃ i, i < m ∧ P i = true ∧ ∀ l, l < i → P l = false := by
            intro m
            induction m with
            | zero => intro _; exact Or.inl (fun i hi => absurd hi (Nat.not_lt_zero i))
            | succ m ih =>
              intro hm
              rcases ih (by omega) with h | ⟨i, a, b, c⟩
              · cases e3 : P m
                · exact Or.inl (fun i hi => by
                    by_cases q : i = m
                    · subst q; exact e3
                    · exact h i (by omega))
                · exact Or.inr ⟨m, by omega, e3, h⟩
              · exact Or.inr ⟨i, by omega, b, c⟩
          rcases key n (Nat.le_refl n) with h | ⟨i, a, b, c⟩
          · rw [h j hj] at e2; cases e2
          · have := fi_iff.mpr ⟨a, b, c⟩
            rw [e] at this; cases this
      by_cases hP : P n = true
      · rw [if_pos hP]
        simp only [Option.some.injEq]
        constructor
        · rintro rfl
          exact ⟨by omega, hP, h1⟩
        · rintro ⟨h2, h3, h4⟩
          rcases Nat.lt_or_ge k n with q | q
          · have := h1 k q
            rw [h3] at this; cases this
          · omega
      · rw [if_neg hP]
        constructor
        · intro h; cases h
        · rintro ⟨h2, h3, h4⟩
          rcases Nat.lt_or_ge k n with q | q
          · have := h1 k q
            rw [h3] at this; cases this
          · have : k = n := by omega
            subst this
            exact absurd h3 hP
theorem fi_none {P : Nat → Bool} {n : Nat} : fi P n = none ↔ ∀ k, k < n → P k = false := by
  constructor
  · intro h
    rw [← an_false]
    cases e : an P n
    · rfl
    · exfalso
      obtain ⟨k, hk, hP⟩ := an_iff.mp e
      have key : ∀ m, m ≤ n → (∀ i, i < m → P i = false) := by
        intro m
        induction m with
        | zero => intro _ i hi; exact absurd hi (Nat.not_lt_zero i)
        | succ m ih =>
          intro hm i hi
          by_cases q : i = m
          · subst q
            cases e3 : P i
            · rfl
            · have := fi_iff.mpr ⟨(show i < n by omega), e3, ih (by omega)⟩
              rw [h] at this; cases this
          · exact ih (by omega) i (by omega)
      rw [key n (Nat.le_refl n) k hk] at hP
      cases hP
  · intro h
    cases e : fi P n with
    | none => rfl
    | some k =>
      have := fi_iff.mp e
      rw [h k this.1] at this
      cases this.2.1
theorem la'_iff {P : Nat → Bool} : ∀ {n : Nat} {k : Nat}, la' P n = some k ↔ k < n ∧ P k = true ∧ ∀ j, k < j → j < n → P j = false
  | 0, k => ⟨fun h => by simp [la'] at h, fun h => absurd h.1 (Nat.not_lt_zero k)⟩
  | n + 1, k => by
    rw [la']
    by_cases hP : P n = true
    · rw [if_pos hP]
      simp only [Option.some.injEq]
      constructor
      · rintro rfl
        exact ⟨by omega, hP, fun j h1 h2 => by omega⟩
      · rintro ⟨h2, h3, h4⟩
        rcases Nat.lt_or_ge k n with q | q
        · have := h4 n q (by omega)
          rw [hP] at this; cases this
        · omega
    · rw [if_neg hP, la'_iff]
      constructor
      · rintro ⟨h1, h2, h3⟩
        exact ⟨by omega, h2, fun j a b => by
          by_cases q : j = n
          · subst q
            cases e : P j
            · rfl
            · exact absurd e hP
          · exact h3 j a (by omega)⟩
      · rintro ⟨h1, h2, h3⟩
        have : k ≠ n := fun e => hP (e ▸ h2)
        exact ⟨by omega, h2, fun j a b => h3 j a (by omega)⟩
theorem la'_none {P : Nat → Bool} : ∀ {n : Nat}, la' P n = none ↔ ∀ k, k < n → P k = false
  | 0 => ⟨fun _ k h => absurd h (Nat.not_lt_zero k), fun _ => rfl⟩
  | n + 1 => by
    rw [la']
    by_cases hP : P n = true
    · rw [if_pos hP]
      constructor
      · intro h; cases h
      · intro h
        rw [h n (by omega)] at hP; cases hP
    · rw [if_neg hP, la'_none]
      constructor
      · intro h k hk
        by_cases q : k = n
        · subst q
          cases e : P k
          · rfl
          · exact absurd e hP
        · exact h k (by omega)
      · intro h k hk
        exact h k (by omega)
/-! the order of places: A is the letter as the reference keeps it (its row r), D which rules are dropped -/
def ov (A : Nat → Nat) (D : Nat → Bool) (K p q : Nat) : Bool := an (fun k => !D k && decide (A (22 + 2 * k) = p) && decide (A (23 + 2 * k) = q)) K
def outrK (A : Nat → Nat) (D : Nat → Bool) (K p q : Nat) : Bool := ov A D K p q || (!ov A D K q p && decide (A (10 + 2 * q) < A (10 + 2 * p)))
def outr (A : Nat → Nat) (D : Nat → Bool) (p q : Nat) : Bool := outrK A D (A 2) p q
/-- what a letter is -/
def vA (A : Nat → Nat) : Prop :=
  (A 0 ≤ 100 ∧ A 1 ≤ 6 ∧ A 2 ≤ 6 ∧ A 3 ≤ 4 ∧ A 4 ≤ 4 ∧ A 6 ≤ 3 ∧ A 7 ≤ 4 ∧ A 8 ≤ 6) ∧
  (∀ p, p < A 1 → A (10 + 2 * p) ≤ 99 ∧ 1 ≤ A (11 + 2 * p) ∧ A (11 + 2 * p) ≤ 9) ∧
  (∀ p q, p < A 1 → q < A 1 → p ≠ q → A (10 + 2 * p) ≠ A (10 + 2 * q)) ∧
  (∀ k, k < A 2 → A (22 + 2 * k) < A 1 ∧ A (23 + 2 * k) < A 1 ∧ A (22 + 2 * k) ≠ A (23 + 2 * k)) ∧
  (∀ k j, k < A 2 → j < A 2 → k ≠ j → ¬ (A (22 + 2 * k) = A (22 + 2 * j) ∧ A (23 + 2 * k) = A (23 + 2 * j)) ∧ ¬ (A (22 + 2 * k) = A (23 + 2 * j) ∧ A (23 + 2 * k) = A (22 + 2 * j))) ∧
  (∀ h, h < A 3 → A (34 + h) ≤ 99) ∧
  (∀ k, k < A 6 → A (38 + k) < A 1) ∧
  (∀ m, m < A 4 → A (41 + m) ≤ 4 ∧ A (41 + m) ≠ 2) ∧
  (∀ b, b < A 8 → A (45 + 4 * b) < A 3 ∧ A (46 + 4 * b) < A 1 ∧ 1 ≤ A (47 + 4 * b) ∧ A (47 + 4 * b) ≤ 9 ∧ A (48 + 4 * b) ≤ 99) ∧
  (A 1 = 0 → A 0 = 0 ∧ A 2 = 0 ∧ A 3 = 0 ∧ A 4 = 0 ∧ A 6 = 0 ∧ A 7 = 0 ∧ A 8 = 0)
def tourn (o : Nat → Nat → Bool) (n : Nat) : Prop := (∀ p q, p < n → q < n → p ≠ q → o p q = !o q p) ∧ ∀ p, p < n → o p p = false
theorem ov_iff {A : Nat → Nat} {D : Nat → Bool} {K p q : Nat} : ov A D K p q = true ↔ ∃ k, k < K ∧ D k = false ∧ A (22 + 2 * k) = p ∧ A (23 + 2 * k) = q := by
  unfold ov
  rw [an_iff]
  constructor
  · rintro ⟨k, h, e⟩
    simp at e
    exact ⟨k, h, e.1.1, e.1.2, e.2⟩
  · rintro ⟨k, h, e1, e2, e3⟩
    exact ⟨k, h, by simp [e1, e2, e3]⟩
theorem ov_not {A : Nat → Nat} {D : Nat → Bool} (hA : vA A) {K p q : Nat} (hK : K ≤ A 2) (h : ov A D K p q = true) : ov A D K q p = false := by
  cases e : ov A D K q p
  · rfl
  · obtain ⟨k, h1, h2, h3, h4⟩ := ov_iff.mp h
    obtain ⟨j, g1, g2, g3, g4⟩ := ov_iff.mp e
    by_cases hkj : k = j
    · subst hkj
      exact absurd (h3.trans g4.symm) (fun z => (hA.2.2.2.1 k (by omega)).2.2 z)
    · exact absurd ⟨by omega, by omega⟩ (hA.2.2.2.2.1 k j (by omega) (by omega) hkj).2
theorem outr_t {A : Nat → Nat} (D : Nat → Bool) (hA : vA A) : tourn (outr A D) (A 1) := by
  constructor
  · intro p q hp hq hpq
    unfold outr outrK
    have hr := hA.2.2.1 p q hp hq hpq
    cases e1 : ov A D (A 2) p q
    · cases e2 : ov A D (A 2) q p
      · simp only [Bool.false_or, Bool.not_false, Bool.true_and]
        by_cases q1 : A (10 + 2 * q) < A (10 + 2 * p)
        · rw [decide_eq_true q1, decide_eq_false (by omega)]; rfl
        · rw [decide_eq_false q1, decide_eq_true (by omega)]; rfl
      · rfl
    · rw [ov_not hA (Nat.le_refl _) e1]; rfl
  · intro p hp
    unfold outr outrK
    have : ov A D (A 2) p p = false := by
      cases e : ov A D (A 2) p p
      · rfl
      · obtain ⟨k, h1, h2, h3, h4⟩ := ov_iff.mp e
        exact absurd (h3.trans h4.symm) (hA.2.2.2.1 k h1).2.2
    rw [this]
    simp
/-! lists of lines: how many, of each its place, what it says, its tag -/
abbrev lT : Type := Nat × (Nat → Nat × Nat × Nat)
def ap (L : lT) (t : Nat × Nat × Nat) : lT := (L.1 + 1, fun j => if j = L.1 then t else L.2 j)
def l0 : lT := (0, fun _ => (0, 0, 0))
def bts (o : Nat → Nat → Bool) (L : lT) (a b : Nat) : Bool := if (L.2 a).1 = (L.2 b).1 then decide (b < a) else o (L.2 a).1 (L.2 b).1
def ubq (o : Nat → Nat → Bool) (L : lT) (a : Nat) : Bool := al (fun b => decide (a = b) || !bts o L b a) L.1
def ub (o : Nat → Nat → Bool) (L : lT) : Option Nat := fi (ubq o L) L.1
def plE (L : lT) (p : Nat) : Bool := an (fun j => decide ((L.2 j).1 = p)) L.1
def laE (L : lT) (p : Nat) : Option Nat := la' (fun j => decide ((L.2 j).1 = p)) L.1
def dsE (L : lT) (p : Nat) : Bool := match laE L p with
  | some j => decide ((L.2 j).2.1 = 1)
  | none => false
def ubpq (o : Nat → Nat → Bool) (np : Nat) (M : Nat → Bool) (p : Nat) : Bool := M p && al (fun q => !(M q && !decide (q = p) && !o p q)) np
def ubp (o : Nat → Nat → Bool) (np : Nat) (M : Nat → Bool) : Option Nat := fi (ubpq o np M) np
theorem ubq_iff {o : Nat → Nat → Bool} {L : lT} {a : Nat} : ubq o L a = true ↔ ∀ b, b < L.1 → a ≠ b → bts o L b a = false := by
  unfold ubq
  rw [al_iff]
  constructor
  · intro h b hb hab
    have := h b hb
    simpa [hab] using this
  · intro h b hb
    by_cases hab : a = b
    · simp [hab]
    · simp [h b hb hab]
theorem ubpq_iff {o : Nat → Nat → Bool} {np : Nat} {M : Nat → Bool} {p : Nat} : ubpq o np M p = true ↔ M p = true ∧ ∀ q, q < np → M q = true → q ≠ p → o p q = true := by
  unfold ubpq
  rw [Bool.and_eq_true, al_iff]
  constructor
  · rintro ⟨h1, h2⟩
    refine ⟨h1, fun q hq hM hn => ?_⟩
    have := h2 q hq
    simpa [hM, hn] using this
  · rintro ⟨h1, h2⟩
    refine ⟨h1, fun q hq => ?_⟩
    by_cases hM : M q = true
    · by_cases hn : q = p
      · simp [hn]
      · simp [h2 q hq hM hn]
    · simp [hM]
theorem plE_iff {L : lT} {p : Nat} : plE L p = true ↔ ∃ j, j < L.1 ∧ (L.2 j).1 = p := by
  unfold plE
  rw [an_iff]
  simp
theorem ub_core {o : Nat → Nat → Bool} {np : Nat} {L : lT} (ht : tourn o np) (hE : ∀ j, j < L.1 → (L.2 j).1 < np) :
    (ub o L = none → ubp o np (plE L) = none) ∧ ∀ a, ub o L = some a → a < L.1 ∧ ubp o np (plE L) = some (L.2 a).1 ∧ laE L (L.2 a).1 = some a := by
  have key : ∀ p, p < np → ubpq o np (plE L) p = true → ∃ a, a < L.1 ∧ (L.2 a).1 = p ∧ ubq o L a = true := by
    intro p hp h
    obtain ⟨h1, h2⟩ := ubpq_iff.mp h
    have h3 : ∃ a, laE L p = some a := by
      cases e : laE L p with
      | some a => exact ⟨a, rfl⟩
      | none =>
        obtain ⟨j, hj, e2⟩ := plE_iff.mp h1
        have := la'_none.mp e j hj
        simp [e2] at this
    obtain ⟨a, e⟩ := h3
    obtain ⟨g1, g2, g3⟩ := la'_iff.mp e
    have g2 : (L.2 a).1 = p := by simpa using g2
    refine ⟨a, g1, g2, ubq_iff.mpr ?_⟩
    intro b hb hab
    unfold bts
    by_cases hq : (L.2 b).1 = (L.2 a).1
    · rw [if_pos hq]
      rcases Nat.lt_or_ge a b with q | q
      · have := g3 b q hb
        simp [hq, g2] at this
      · exact decide_eq_false (by omega)
    · rw [if_neg hq, g2]
      have h5 := h2 (L.2 b).1 (hE b hb) (plE_iff.mpr ⟨b, hb, rfl⟩) (by rw [← g2]; exact hq)
      have := ht.1 _ _ hp (hE b hb) (by rw [← g2]; exact fun e => hq e.symm)
      rw [h5] at this
      cases e3 : o (L.2 b).1 p
      · rfl
      · rw [e3] at this; cases this
  constructor
  · intro h
    unfold ubp
    rw [fi_none]
    intro p hp
    cases e : ubpq o np (plE L) p
    · rfl
    · obtain ⟨a, h1, _, h3⟩ := key p hp e
      have := fi_none.mp h a h1
      rw [h3] at this; cases this
  · intro a h
    obtain ⟨h1, h2, -⟩ := fi_iff.mp h
    have h2' := ubq_iff.mp h2
    have hall : ∀ q, q < np → plE L q = true → q ≠ (L.2 a).1 → o (L.2 a).1 q = true := by
      intro q hq hM hn
      obtain ⟨b, hb, e⟩ := plE_iff.mp hM
      have h4 := h2' b hb (fun z => hn (by rw [← e, z]))
      unfold bts at h4
      rw [if_neg (by rw [e]; exact hn), e] at h4
      have := ht.1 _ _ (hE a h1) hq (fun z => hn z.symm)
      rw [h4] at this
      exact this
    refine ⟨h1, fi_iff.mpr ⟨hE a h1, ubpq_iff.mpr ⟨plE_iff.mpr ⟨a, h1, rfl⟩, hall⟩, ?_⟩, la'_iff.mpr ⟨h1, by simp, ?_⟩⟩
    · intro p hp
      cases e : ubpq o np (plE L) p
      · rfl
      · obtain ⟨g1, g2⟩ := ubpq_iff.mp e
        have hp2 : p < np := Nat.lt_trans hp (hE a h1)
        have z1 := g2 _ (hE a h1) (plE_iff.mpr ⟨a, h1, rfl⟩) (by omega)
        have z2 := hall p hp2 g1 (by omega)
        have := ht.1 p _ hp2 (hE a h1) (by omega)
        rw [z1, z2] at this
        cases this
    · intro j hj hjn
      have h4 := h2' j hjn (by omega)
      unfold bts at h4
      by_cases q : (L.2 j).1 = (L.2 a).1
      · rw [if_pos q] at h4
        have := of_decide_eq_false h4
        omega
      · simp [q]
/-- what is done, which line stands -/
def vd (o : Nat → Nat → Bool) (L : lT) : Option Nat := (ub o L).map fun a => (L.2 a).2.1
def sd (o : Nat → Nat → Bool) (L : lT) : Option Nat := (ub o L).map fun a => (L.2 a).2.2
def vdp (o : Nat → Nat → Bool) (np : Nat) (M d : Nat → Bool) : Option Nat := (ubp o np M).map fun p => if d p then 1 else 0
theorem vd_eq {o : Nat → Nat → Bool} {np : Nat} {L : lT} (ht : tourn o np) (hE : ∀ j, j < L.1 → (L.2 j).1 < np ∧ (L.2 j).2.1 ≤ 1) : vdp o np (plE L) (dsE L) = vd o L := by
  have h := ub_core ht (fun j hj => (hE j hj).1)
  unfold vdp vd
  cases e : ub o L with
  | none => rw [h.1 e]; rfl
  | some a =>
    obtain ⟨h1, h2, h3⟩ := h.2 a e
    rw [h2]
    show some (if dsE L (L.2 a).1 = true then 1 else 0) = some (L.2 a).2.1
    unfold dsE
    rw [h3]
    have := (hE a h1).2
    by_cases q : (L.2 a).2.1 = 1
    · simp [q]
    · simp [q]; omega
theorem sd_eq {o : Nat → Nat → Bool} {np : Nat} {L : lT} (ht : tourn o np) (hE : ∀ j, j < L.1 → (L.2 j).1 < np) : sd o L = (ubp o np (plE L)).bind (fun p => (laE L p).map fun a => (L.2 a).2.2) := by
  have h := ub_core ht hE
  unfold sd
  cases e : ub o L with
  | none => rw [h.1 e]; rfl
  | some a =>
    obtain ⟨h1, h2, h3⟩ := h.2 a e
    rw [h2]
    show some (L.2 a).2.2 = (laE L (L.2 a).1).map _
    rw [h3]
    rfl
theorem plE_ap (L : lT) (t : Nat × Nat × Nat) (p : Nat) : plE (ap L t) p = (plE L p || decide (t.1 = p)) := by
  show (an _ L.1 || decide ((if L.1 = L.1 then t else L.2 L.1).1 = p)) = _
  rw [if_pos rfl]
  unfold plE
  rw [an_cong (Q := fun j => decide ((L.2 j).1 = p))]
  intro k hk
  show decide ((if k = L.1 then t else L.2 k).1 = p) = _
  rw [if_neg (by omega)]
theorem la'_cong {P Q : Nat → Bool} : ∀ {n : Nat}, (∀ k, k < n → P k = Q k) → la' P n = la' Q n
  | 0, _ => rfl
  | n + 1, h => by rw [la', la', h n (by omega), la'_cong (fun k hk => h k (by omega))]
theorem laE_ap (L : lT) (t : Nat × Nat × Nat) (p : Nat) : laE (ap L t) p = if t.1 = p then some L.1 else laE L p := by
  show (if decide ((if L.1 = L.1 then t else L.2 L.1).1 = p) = true then some L.1 else la' _ L.1) = _
  rw [if_pos rfl]
  simp only [decide_eq_true_eq]
  by_cases h : t.1 = p
  · rw [if_pos h, if_pos h]
  · rw [if_neg h, if_neg h]
    unfold laE
    apply la'_cong
    intro k hk
    show decide ((if k = L.1 then t else L.2 k).1 = p) = _
    rw [if_neg (by omega)]
theorem dsE_ap (L : lT) (t : Nat × Nat × Nat) (p : Nat) : dsE (ap L t) p = if t.1 = p then decide (t.2.1 = 1) else dsE L p := by
  unfold dsE
  rw [laE_ap]
  by_cases h : t.1 = p
  · rw [if_pos h, if_pos h]
    show decide (((if L.1 = L.1 then t else L.2 L.1)).2.1 = 1) = _
    rw [if_pos rfl]
  · rw [if_neg h, if_neg h]
    cases e : laE L p with
    | none => rfl
    | some j =>
      have := (la'_iff.mp e).1
      show decide (((if j = L.1 then t else L.2 j)).2.1 = 1) = _
      rw [if_neg (by omega)]
/-! the page B as the reference keeps it (its row st) -/
def vB (A B : Nat → Nat) : Prop := B 48 ≤ 8 ∧ B 49 < 2 ^ A 1 ∧
  (∀ k, k < B 48 → B (6 * k) < A 3 ∧ B (6 * k + 1) < A 1 ∧ B (6 * k + 2) < A 4 ∧ B (6 * k + 3) ≤ 1 ∧ 1 ≤ B (6 * k + 4) ∧ B (6 * k + 4) ≤ 9 ∧ B (6 * k + 5) ≤ 1)
/-- the lines of a matter, of the first n, that are in a set -/
def ll (B : Nat → Nat) (m : Nat) (S : Nat → Bool) : Nat → lT
  | 0 => l0
  | k + 1 => if decide (B (6 * k + 2) = m) && S k then ap (ll B m S k) (B (6 * k + 1), B (6 * k + 3), k) else ll B m S k
theorem ll_t {B : Nat → Nat} {m : Nat} {S : Nat → Bool} {k : Nat} (h1 : B (6 * k + 2) = m) (h2 : S k = true) : ll B m S (k + 1) = ap (ll B m S k) (B (6 * k + 1), B (6 * k + 3), k) := by
  rw [ll, if_pos (by simp [h1, h2])]
theorem ll_f {B : Nat → Nat} {m : Nat} {S : Nat → Bool} {k : Nat} (h : ¬ (B (6 * k + 2) = m ∧ S k = true)) : ll B m S (k + 1) = ll B m S k := by
  rw [ll, if_neg (by simpa using h)]
theorem ll_cong {B : Nat → Nat} {m : Nat} {S S' : Nat → Bool} : ∀ {n : Nat}, (∀ k, k < n → B (6 * k + 2) = m → S k = S' k) → ll B m S n = ll B m S' n
  | 0, _ => rfl
  | n + 1, h => by
    have ih := ll_cong (S := S) (S' := S') (n := n) (fun k hk => h k (by omega))
    rw [ll, ll, ih]
    by_cases e : B (6 * n + 2) = m
    · rw [h n (by omega) e]
    · simp [e]
theorem ll_le (B : Nat → Nat) (m : Nat) (S : Nat → Bool) : ∀ n, (ll B m S n).1 ≤ n
  | 0 => Nat.le_refl 0
  | n + 1 => by
    have := ll_le B m S n
    rw [ll]
    split
    · show (ll B m S n).1 + 1 ≤ n + 1; omega
    · omega
theorem ll_mem (B : Nat → Nat) (m : Nat) (S : Nat → Bool) : ∀ n j, j < (ll B m S n).1 → ∃ k, k < n ∧ B (6 * k + 2) = m ∧ S k = true ∧ (ll B m S n).2 j = (B (6 * k + 1), B (6 * k + 3), k)
  | 0, j, h => absurd h (Nat.not_lt_zero j)
  | n + 1, j, h => by
    by_cases e : B (6 * n + 2) = m ∧ S n = true
    · rw [ll_t e.1 e.2] at h ⊢
      have h : j < (ll B m S n).1 + 1 := h
      show ∃ k, k < n + 1 ∧ B (6 * k + 2) = m ∧ S k = true ∧ (if j = (ll B m S n).1 then (B (6 * n + 1), B (6 * n + 3), n) else (ll B m S n).2 j) = _
      by_cases q : j = (ll B m S n).1
      · rw [if_pos q]
        exact ⟨n, by omega, e.1, e.2, rfl⟩
      · rw [if_neg q]
        obtain ⟨k, h1, h2⟩ := ll_mem B m S n j (by omega)
        exact ⟨k, by omega, h2⟩
    · rw [ll_f e] at h ⊢
      obtain ⟨k, h1, h2⟩ := ll_mem B m S n j h
      exact ⟨k, by omega, h2⟩
/-- the last line at a place, by the list and by the page -/
theorem ll_last (B : Nat → Nat) (m : Nat) (S : Nat → Bool) (p : Nat) : ∀ n, ((laE (ll B m S n) p).map fun a => ((ll B m S n).2 a).2.2) = la' (fun k => S k && decide (B (6 * k + 2) = m) && decide (B (6 * k + 1) = p)) n
  | 0 => rfl
  | n + 1 => by
    have ih := ll_last B m S p n
    rw [la']
    by_cases e : B (6 * n + 2) = m ∧ S n = true
    · rw [ll_t e.1 e.2, laE_ap]
      by_cases q : B (6 * n + 1) = p
      · rw [if_pos q, if_pos (by simp [e.1, e.2, q])]
        show some ((if (ll B m S n).1 = (ll B m S n).1 then (B (6 * n + 1), B (6 * n + 3), n) else _).2.2) = some n
        rw [if_pos rfl]
      · rw [if_neg q, if_neg (by simp [q]), ← ih]
        cases e2 : laE (ll B m S n) p with
        | none => rfl
        | some a =>
          have := (la'_iff.mp e2).1
          show some ((if a = (ll B m S n).1 then _ else (ll B m S n).2 a).2.2) = some _
          rw [if_neg (by omega)]
    · rw [ll_f e, ih, if_neg]
      simp only [Bool.and_eq_true, decide_eq_true_eq]
      exact fun z => e ⟨z.1.2, z.1.1⟩
