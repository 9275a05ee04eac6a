/-! the letter that is being read, as it grows -/
def uF (F : Nat → Nat) (k v : Nat) : Nat → Nat := fun j => if j = k then v else F j
theorem upE {F : Nat → Nat} {k v : Nat} : uF F k v k = v := if_pos rfl
theorem upN {F : Nat → Nat} {k v j : Nat} (h : j ≠ k) : uF F k v j = F j := if_neg h
theorem upR {F : Nat → Nat} {σ : zS} {r w : Nat} (h : ∀ k, k < w → σ.1 r k = nI (F k)) (j v : Nat) : ∀ k, k < w → (zpi σ r j (nI v)).1 r k = nI (uF F j v k) := by
  intro k hk
  by_cases z : k = j
  · subst z; rw [zpi_eq, upE]
  · rw [zpi_ne _ _ (by omega), upN z, h k hk]
/-- a place in the letter's row that tells nothing yet -/
def jk (F : Nat → Nat) (j : Nat) : Prop := (∀ k, k ≤ 8 → k ≠ j) ∧ (∀ p, p < F 1 → 10 + 2 * p ≠ j ∧ 11 + 2 * p ≠ j) ∧ (∀ p, p < F 2 → 22 + 2 * p ≠ j ∧ 23 + 2 * p ≠ j) ∧ (∀ p, p < F 3 → 34 + p ≠ j) ∧ (∀ p, p < F 4 → 41 + p ≠ j) ∧ (∀ p, p < F 6 → 38 + p ≠ j) ∧ (∀ p, p < F 8 → 45 + 4 * p ≠ j ∧ 46 + 4 * p ≠ j ∧ 47 + 4 * p ≠ j ∧ 48 + 4 * p ≠ j)
def jc (c : Nat) (F : Nat → Nat) (a k : Nat) : Prop := (∀ l, 9 ≤ l → ¬ (c = a ∧ l = k)) ∧ ¬ (c + 14 = a ∧ 4 = k) ∧ (∀ p, p < F 1 → ¬ (c + 1 = a ∧ p = k) ∧ ¬ (c + 2 = a ∧ p = k)) ∧ (∀ p, p < F 2 → ¬ (c + 3 = a ∧ p = k) ∧ ¬ (c + 4 = a ∧ p = k)) ∧ (∀ p, p < F 3 → ¬ (c + 5 = a ∧ p = k)) ∧ (∀ p, p < F 4 → ¬ (c + 6 = a ∧ p = k)) ∧ (∀ p, p < F 6 → ¬ (c + 7 = a ∧ p = k)) ∧ (∀ p, p < F 8 → ¬ (c + 15 = a ∧ p = k) ∧ ¬ (c + 16 = a ∧ p = k) ∧ ¬ (c + 17 = a ∧ p = k) ∧ ¬ (c + 18 = a ∧ p = k))
section GR
variable {c : Nat} {F : Nat → Nat} {i i' : Nat → Nat → Int32}
theorem gA.j (h : gA c F i) {j v a0 k0 : Nat} (hj : jk F j) (hc : jc c F a0 k0) (e : ∀ a k, ¬ (a = a0 ∧ k = k0) → i' a k = i a k) : gA c (uF F j v) i' := by
  obtain ⟨⟨h1, h2, h3, h4, h5, h6, h7, h8⟩, g1, g2, g3, g4, g5, g6⟩ := h
  obtain ⟨j1, j2, j3, j4, j5, j6, j7⟩ := hj
  obtain ⟨c1, c2, c3, c4, c5, c6, c7, c8⟩ := hc
  refine ⟨⟨?_, ?_, ?_, ?_, ?_, ?_, ?_, ?_⟩, fun p hp => ⟨?_, ?_⟩, fun p hp => ⟨?_, ?_⟩, fun p hp => ?_, fun p hp => ?_, fun p hp => ?_, fun p hp => ⟨?_, ?_, ?_, ?_⟩⟩
  · rw [upN (j1 _ (by omega)), e _ _ (c1 _ (by omega))]; exact h1
  · rw [upN (j1 _ (by omega)), e _ _ (c1 _ (by omega))]; exact h2
  · rw [upN (j1 _ (by omega)), e _ _ (c1 _ (by omega))]; exact h3
  · rw [upN (j1 _ (by omega)), e _ _ (c1 _ (by omega))]; exact h4
  · rw [upN (j1 _ (by omega)), e _ _ (c1 _ (by omega))]; exact h5
  · rw [upN (j1 _ (by omega)), e _ _ (c1 _ (by omega))]; exact h6
  · rw [upN (j1 _ (by omega)), e _ _ (c1 _ (by omega))]; exact h7
  · rw [upN (j1 _ (by omega)), e _ _ c2]; exact h8
  · rw [upN (j1 _ (by omega))] at hp
    rw [upN (j2 p hp).1, e _ _ (c3 p hp).1]; exact (g1 p hp).1
  · rw [upN (j1 _ (by omega))] at hp
    rw [upN (j2 p hp).2, e _ _ (c3 p hp).2]; exact (g1 p hp).2
  · rw [upN (j1 _ (by omega))] at hp
    rw [upN (j3 p hp).1, e _ _ (c4 p hp).1]; exact (g2 p hp).1
  · rw [upN (j1 _ (by omega))] at hp
    rw [upN (j3 p hp).2, e _ _ (c4 p hp).2]; exact (g2 p hp).2
  · rw [upN (j1 _ (by omega))] at hp
    rw [upN (j4 p hp), e _ _ (c5 p hp)]; exact (g3 p hp)
  · rw [upN (j1 _ (by omega))] at hp
    rw [upN (j5 p hp), e _ _ (c6 p hp)]; exact (g4 p hp)
  · rw [upN (j1 _ (by omega))] at hp
    rw [upN (j6 p hp), e _ _ (c7 p hp)]; exact (g5 p hp)
  · rw [upN (j1 _ (by omega))] at hp
    rw [upN (j7 p hp).1, e _ _ (c8 p hp).1]; exact (g6 p hp).1
  · rw [upN (j1 _ (by omega))] at hp
    rw [upN (j7 p hp).2.1, e _ _ (c8 p hp).2.1]; exact (g6 p hp).2.1
  · rw [upN (j1 _ (by omega))] at hp
    rw [upN (j7 p hp).2.2.1, e _ _ (c8 p hp).2.2.1]; exact (g6 p hp).2.2.1
  · rw [upN (j1 _ (by omega))] at hp
    rw [upN (j7 p hp).2.2.2, e _ _ (c8 p hp).2.2.2]; exact (g6 p hp).2.2.2
theorem gA.c1 (h : gA c F i) (e : ∀ a k, ¬ (a = c ∧ k = 10) → i' a k = i a k) (e1 : i' (c) 10 = nI (F 1 + 1)) (q : i (c + 1) (F 1) = nI (F (10 + 2 * F 1)) ∧ i (c + 2) (F 1) = nI (F (11 + 2 * F 1))) : gA c (uF F 1 (F 1 + 1)) i' := by
  obtain ⟨⟨h1, h2, h3, h4, h5, h6, h7, h8⟩, g1, g2, g3, g4, g5, g6⟩ := h
  refine ⟨⟨?_, ?_, ?_, ?_, ?_, ?_, ?_, ?_⟩, fun p hp => ⟨?_, ?_⟩, fun p hp => ⟨?_, ?_⟩, fun p hp => ?_, fun p hp => ?_, fun p hp => ?_, fun p hp => ⟨?_, ?_, ?_, ?_⟩⟩
  · rw [upN (by omega), e _ _ (by omega)]; exact h1
  · rw [upE]; exact e1
  · rw [upN (by omega), e _ _ (by omega)]; exact h3
  · rw [upN (by omega), e _ _ (by omega)]; exact h4
  · rw [upN (by omega), e _ _ (by omega)]; exact h5
  · rw [upN (by omega), e _ _ (by omega)]; exact h6
  · rw [upN (by omega), e _ _ (by omega)]; exact h7
  · rw [upN (by omega), e _ _ (by omega)]; exact h8
  · rw [upE] at hp
    rw [upN (by omega), e _ _ (by omega)]
    by_cases z : p = F 1
    · rw [z]; exact q.1
    · have hp : p < F 1 := by omega
      exact (g1 p hp).1
  · rw [upE] at hp
    rw [upN (by omega), e _ _ (by omega)]
    by_cases z : p = F 1
    · rw [z]; exact q.2
    · have hp : p < F 1 := by omega
      exact (g1 p hp).2
  · rw [upN (by omega)] at hp
    rw [upN (by omega), e _ _ (by omega)]; exact (g2 p hp).1
  · rw [upN (by omega)] at hp
    rw [upN (by omega), e _ _ (by omega)]; exact (g2 p hp).2
  · rw [upN (by omega)] at hp
    rw [upN (by omega), e _ _ (by omega)]; exact (g3 p hp)
  · rw [upN (by omega)] at hp
    rw [upN (by omega), e _ _ (by omega)]; exact (g4 p hp)
  · rw [upN (by omega)] at hp
    rw [upN (by omega), e _ _ (by omega)]; exact (g5 p hp)
  · rw [upN (by omega)] at hp
    rw [upN (by omega), e _ _ (by omega)]; exact (g6 p hp).1
  · rw [upN (by omega)] at hp
    rw [upN (by omega), e _ _ (by omega)]; exact (g6 p hp).2.1
  · rw [upN (by omega)] at hp
    rw [upN (by omega), e _ _ (by omega)]; exact (g6 p hp).2.2.1
  · rw [upN (by omega)] at hp
    rw [upN (by omega), e _ _ (by omega)]; exact (g6 p hp).2.2.2
theorem gA.c2 (h : gA c F i) (e : ∀ a k, ¬ (a = c ∧ k = 11) → i' a k = i a k) (e1 : i' (c) 11 = nI (F 2 + 1)) (q : i (c + 3) (F 2) = nI (F (22 + 2 * F 2)) ∧ i (c + 4) (F 2) = nI (F (23 + 2 * F 2))) : gA c (uF F 2 (F 2 + 1)) i' := by
  obtain ⟨⟨h1, h2, h3, h4, h5, h6, h7, h8⟩, g1, g2, g3, g4, g5, g6⟩ := h
  refine ⟨⟨?_, ?_, ?_, ?_, ?_, ?_, ?_, ?_⟩, fun p hp => ⟨?_, ?_⟩, fun p hp => ⟨?_, ?_⟩, fun p hp => ?_, fun p hp => ?_, fun p hp => ?_, fun p hp => ⟨?_, ?_, ?_, ?_⟩⟩
  · rw [upN (by omega), e _ _ (by omega)]; exact h1
  · rw [upN (by omega), e _ _ (by omega)]; exact h2
  · rw [upE]; exact e1
  · rw [upN (by omega), e _ _ (by omega)]; exact h4
  · rw [upN (by omega), e _ _ (by omega)]; exact h5
  · rw [upN (by omega), e _ _ (by omega)]; exact h6
  · rw [upN (by omega), e _ _ (by omega)]; exact h7
  · rw [upN (by omega), e _ _ (by omega)]; exact h8
  · rw [upN (by omega)] at hp
    rw [upN (by omega), e _ _ (by omega)]; exact (g1 p hp).1
  · rw [upN (by omega)] at hp
    rw [upN (by omega), e _ _ (by omega)]; exact (g1 p hp).2
  · rw [upE] at hp
    rw [upN (by omega), e _ _ (by omega)]
    by_cases z : p = F 2
    · rw [z]; exact q.1
    · have hp : p < F 2 := by omega
      exact (g2 p hp).1
  · rw [upE] at hp
    rw [upN (by omega), e _ _ (by omega)]
    by_cases z : p = F 2
    · rw [z]; exact q.2
    · have hp : p < F 2 := by omega
      exact (g2 p hp).2
  · rw [upN (by omega)] at hp
    rw [upN (by omega), e _ _ (by omega)]; exact (g3 p hp)
  · rw [upN (by omega)] at hp
    rw [upN (by omega), e _ _ (by omega)]; exact (g4 p hp)
  · rw [upN (by omega)] at hp
    rw [upN (by omega), e _ _ (by omega)]; exact (g5 p hp)
  · rw [upN (by omega)] at hp
    rw [upN (by omega), e _ _ (by omega)]; exact (g6 p hp).1
  · rw [upN (by omega)] at hp
    rw [upN (by omega), e _ _ (by omega)]; exact (g6 p hp).2.1
  · rw [upN (by omega)] at hp
    rw [upN (by omega), e _ _ (by omega)]; exact (g6 p hp).2.2.1
  · rw [upN (by omega)] at hp
    rw [upN (by omega), e _ _ (by omega)]; exact (g6 p hp).2.2.2
theorem gA.c3 (h : gA c F i) (e : ∀ a k, ¬ (a = c ∧ k = 12) → i' a k = i a k) (e1 : i' (c) 12 = nI (F 3 + 1)) (q : i (c + 5) (F 3) = nI (F (34 + F 3))) : gA c (uF F 3 (F 3 + 1)) i' := by
  obtain ⟨⟨h1, h2, h3, h4, h5, h6, h7, h8⟩, g1, g2, g3, g4, g5, g6⟩ := h
  refine ⟨⟨?_, ?_, ?_, ?_, ?_, ?_, ?_, ?_⟩, fun p hp => ⟨?_, ?_⟩, fun p hp => ⟨?_, ?_⟩, fun p hp => ?_, fun p hp => ?_, fun p hp => ?_, fun p hp => ⟨?_, ?_, ?_, ?_⟩⟩
  · rw [upN (by omega), e _ _ (by omega)]; exact h1
  · rw [upN (by omega), e _ _ (by omega)]; exact h2
  · rw [upN (by omega), e _ _ (by omega)]; exact h3
  · rw [upE]; exact e1
  · rw [upN (by omega), e _ _ (by omega)]; exact h5
  · rw [upN (by omega), e _ _ (by omega)]; exact h6
  · rw [upN (by omega), e _ _ (by omega)]; exact h7
  · rw [upN (by omega), e _ _ (by omega)]; exact h8
  · rw [upN (by omega)] at hp
    rw [upN (by omega), e _ _ (by omega)]; exact (g1 p hp).1
  · rw [upN (by omega)] at hp
    rw [upN (by omega), e _ _ (by omega)]; exact (g1 p hp).2
  · rw [upN (by omega)] at hp
    rw [upN (by omega), e _ _ (by omega)]; exact (g2 p hp).1
  · rw [upN (by omega)] at hp
    rw [upN (by omega), e _ _ (by omega)]; exact (g2 p hp).2
  · rw [upE] at hp
    rw [upN (by omega), e _ _ (by omega)]
    by_cases z : p = F 3
    · rw [z]; exact q
    · have hp : p < F 3 := by omega
      exact (g3 p hp)
  · rw [upN (by omega)] at hp
    rw [upN (by omega), e _ _ (by omega)]; exact (g4 p hp)
  · rw [upN (by omega)] at hp
    rw [upN (by omega), e _ _ (by omega)]; exact (g5 p hp)
  · rw [upN (by omega)] at hp
    rw [upN (by omega), e _ _ (by omega)]; exact (g6 p hp).1
  · rw [upN (by omega)] at hp
    rw [upN (by omega), e _ _ (by omega)]; exact (g6 p hp).2.1
  · rw [upN (by omega)] at hp
    rw [upN (by omega), e _ _ (by omega)]; exact (g6 p hp).2.2.1
  · rw [upN (by omega)] at hp
    rw [upN (by omega), e _ _ (by omega)]; exact (g6 p hp).2.2.2
theorem gA.c4 (h : gA c F i) (e : ∀ a k, ¬ (a = c ∧ k = 13) → i' a k = i a k) (e1 : i' (c) 13 = nI (F 4 + 1)) (q : i (c + 6) (F 4) = tI (F (41 + F 4))) : gA c (uF F 4 (F 4 + 1)) i' := by
  obtain ⟨⟨h1, h2, h3, h4, h5, h6, h7, h8⟩, g1, g2, g3, g4, g5, g6⟩ := h
  refine ⟨⟨?_, ?_, ?_, ?_, ?_, ?_, ?_, ?_⟩, fun p hp => ⟨?_, ?_⟩, fun p hp => ⟨?_, ?_⟩, fun p hp => ?_, fun p hp => ?_, fun p hp => ?_, fun p hp => ⟨?_, ?_, ?_, ?_⟩⟩
  · rw [upN (by omega), e _ _ (by omega)]; exact h1
  · rw [upN (by omega), e _ _ (by omega)]; exact h2
  · rw [upN (by omega), e _ _ (by omega)]; exact h3
  · rw [upN (by omega), e _ _ (by omega)]; exact h4
  · rw [upE]; exact e1
  · rw [upN (by omega), e _ _ (by omega)]; exact h6
  · rw [upN (by omega), e _ _ (by omega)]; exact h7
  · rw [upN (by omega), e _ _ (by omega)]; exact h8
  · rw [upN (by omega)] at hp
    rw [upN (by omega), e _ _ (by omega)]; exact (g1 p hp).1
  · rw [upN (by omega)] at hp
    rw [upN (by omega), e _ _ (by omega)]; exact (g1 p hp).2
  · rw [upN (by omega)] at hp
    rw [upN (by omega), e _ _ (by omega)]; exact (g2 p hp).1
  · rw [upN (by omega)] at hp
    rw [upN (by omega), e _ _ (by omega)]; exact (g2 p hp).2
  · rw [upN (by omega)] at hp
    rw [upN (by omega), e _ _ (by omega)]; exact (g3 p hp)
  · rw [upE] at hp
    rw [upN (by omega), e _ _ (by omega)]
    by_cases z : p = F 4
    · rw [z]; exact q
    · have hp : p < F 4 := by omega
      exact (g4 p hp)
  · rw [upN (by omega)] at hp
    rw [upN (by omega), e _ _ (by omega)]; exact (g5 p hp)
  · rw [upN (by omega)] at hp
    rw [upN (by omega), e _ _ (by omega)]; exact (g6 p hp).1
  · rw [upN (by omega)] at hp
    rw [upN (by omega), e _ _ (by omega)]; exact (g6 p hp).2.1
  · rw [upN (by omega)] at hp
    rw [upN (by omega), e _ _ (by omega)]; exact (g6 p hp).2.2.1
  · rw [upN (by omega)] at hp
    rw [upN (by omega), e _ _ (by omega)]; exact (g6 p hp).2.2.2
theorem gA.c6 (h : gA c F i) (e : ∀ a k, ¬ (a = c ∧ k = 14) → i' a k = i a k) (e1 : i' (c) 14 = nI (F 6 + 1)) (q : i (c + 7) (F 6) = nI (F (38 + F 6))) : gA c (uF F 6 (F 6 + 1)) i' := by
  obtain ⟨⟨h1, h2, h3, h4, h5, h6, h7, h8⟩, g1, g2, g3, g4, g5, g6⟩ := h
  refine ⟨⟨?_, ?_, ?_, ?_, ?_, ?_, ?_, ?_⟩, fun p hp => ⟨?_, ?_⟩, fun p hp => ⟨?_, ?_⟩, fun p hp => ?_, fun p hp => ?_, fun p hp => ?_, fun p hp => ⟨?_, ?_, ?_, ?_⟩⟩
  · rw [upN (by omega), e _ _ (by omega)]; exact h1
  · rw [upN (by omega), e _ _ (by omega)]; exact h2
  · rw [upN (by omega), e _ _ (by omega)]; exact h3
  · rw [upN (by omega), e _ _ (by omega)]; exact h4
  · rw [upN (by omega), e _ _ (by omega)]; exact h5
  · rw [upE]; exact e1
  · rw [upN (by omega), e _ _ (by omega)]; exact h7
  · rw [upN (by omega), e _ _ (by omega)]; exact h8
  · rw [upN (by omega)] at hp
    rw [upN (by omega), e _ _ (by omega)]; exact (g1 p hp).1
  · rw [upN (by omega)] at hp
    rw [upN (by omega), e _ _ (by omega)]; exact (g1 p hp).2
  · rw [upN (by omega)] at hp
    rw [upN (by omega), e _ _ (by omega)]; exact (g2 p hp).1
  · rw [upN (by omega)] at hp
    rw [upN (by omega), e _ _ (by omega)]; exact (g2 p hp).2
  · rw [upN (by omega)] at hp
    rw [upN (by omega), e _ _ (by omega)]; exact (g3 p hp)
  · rw [upN (by omega)] at hp
    rw [upN (by omega), e _ _ (by omega)]; exact (g4 p hp)
  · rw [upE] at hp
    rw [upN (by omega), e _ _ (by omega)]
    by_cases z : p = F 6
    · rw [z]; exact q
    · have hp : p < F 6 := by omega
      exact (g5 p hp)
  · rw [upN (by omega)] at hp
    rw [upN (by omega), e _ _ (by omega)]; exact (g6 p hp).1
  · rw [upN (by omega)] at hp
    rw [upN (by omega), e _ _ (by omega)]; exact (g6 p hp).2.1
  · rw [upN (by omega)] at hp
    rw [upN (by omega), e _ _ (by omega)]; exact (g6 p hp).2.2.1
  · rw [upN (by omega)] at hp
    rw [upN (by omega), e _ _ (by omega)]; exact (g6 p hp).2.2.2
theorem gA.c8 (h : gA c F i) (e : ∀ a k, ¬ (a = c + 14 ∧ k = 4) → i' a k = i a k) (e1 : i' (c + 14) 4 = nI (F 8 + 1)) (q : i (c + 15) (F 8) = nI (F (45 + 4 * F 8)) ∧ i (c + 16) (F 8) = nI (F (46 + 4 * F 8)) ∧ i (c + 17) (F 8) = nI (F (47 + 4 * F 8)) ∧ i (c + 18) (F 8) = nI (F (48 + 4 * F 8))) : gA c (uF F 8 (F 8 + 1)) i' := by
  obtain ⟨⟨h1, h2, h3, h4, h5, h6, h7, h8⟩, g1, g2, g3, g4, g5, g6⟩ := h
  refine ⟨⟨?_, ?_, ?_, ?_, ?_, ?_, ?_, ?_⟩, fun p hp => ⟨?_, ?_⟩, fun p hp => ⟨?_, ?_⟩, fun p hp => ?_, fun p hp => ?_, fun p hp => ?_, fun p hp => ⟨?_, ?_, ?_, ?_⟩⟩
  · rw [upN (by omega), e _ _ (by omega)]; exact h1
  · rw [upN (by omega), e _ _ (by omega)]; exact h2
  · rw [upN (by omega), e _ _ (by omega)]; exact h3
  · rw [upN (by omega), e _ _ (by omega)]; exact h4
  · rw [upN (by omega), e _ _ (by omega)]; exact h5
  · rw [upN (by omega), e _ _ (by omega)]; exact h6
  · rw [upN (by omega), e _ _ (by omega)]; exact h7
  · rw [upE]; exact e1
  · rw [upN (by omega)] at hp
    rw [upN (by omega), e _ _ (by omega)]; exact (g1 p hp).1
  · rw [upN (by omega)] at hp
    rw [upN (by omega), e _ _ (by omega)]; exact (g1 p hp).2
  · rw [upN (by omega)] at hp
    rw [upN (by omega), e _ _ (by omega)]; exact (g2 p hp).1
  · rw [upN (by omega)] at hp
    rw [upN (by omega), e _ _ (by omega)]; exact (g2 p hp).2
  · rw [upN (by omega)] at hp
    rw [upN (by omega), e _ _ (by omega)]; exact (g3 p hp)
  · rw [upN (by omega)] at hp
    rw [upN (by omega), e _ _ (by omega)]; exact (g4 p hp)
  · rw [upN (by omega)] at hp
    rw [upN (by omega), e _ _ (by omega)]; exact (g5 p hp)
  · rw [upE] at hp
    rw [upN (by omega), e _ _ (by omega)]
    by_cases z : p = F 8
    · rw [z]; exact q.1
    · have hp : p < F 8 := by omega
      exact (g6 p hp).1
  · rw [upE] at hp
    rw [upN (by omega), e _ _ (by omega)]
    by_cases z : p = F 8
    · rw [z]; exact q.2.1
    · have hp : p < F 8 := by omega
      exact (g6 p hp).2.1
  · rw [upE] at hp
    rw [upN (by omega), e _ _ (by omega)]
    by_cases z : p = F 8
    · rw [z]; exact q.2.2.1
    · have hp : p < F 8 := by omega
      exact (g6 p hp).2.2.1
  · rw [upE] at hp
    rw [upN (by omega), e _ _ (by omega)]
    by_cases z : p = F 8
    · rw [z]; exact q.2.2.2
    · have hp : p < F 8 := by omega
      exact (g6 p hp).2.2.2
theorem gA.c0 (h : gA c F i) {v : Nat} (e : ∀ a k, ¬ (a = c ∧ k = 9) → i' a k = i a k) (e1 : i' (c) 9 = nI v) : gA c (uF F 0 v) i' := by
  obtain ⟨⟨h1, h2, h3, h4, h5, h6, h7, h8⟩, g1, g2, g3, g4, g5, g6⟩ := h
  refine ⟨⟨?_, ?_, ?_, ?_, ?_, ?_, ?_, ?_⟩, fun p hp => ⟨?_, ?_⟩, fun p hp => ⟨?_, ?_⟩, fun p hp => ?_, fun p hp => ?_, fun p hp => ?_, fun p hp => ⟨?_, ?_, ?_, ?_⟩⟩
  · rw [upE]; exact e1
  · rw [upN (by omega), e _ _ (by omega)]; exact h2
  · rw [upN (by omega), e _ _ (by omega)]; exact h3
  · rw [upN (by omega), e _ _ (by omega)]; exact h4
  · rw [upN (by omega), e _ _ (by omega)]; exact h5
  · rw [upN (by omega), e _ _ (by omega)]; exact h6
  · rw [upN (by omega), e _ _ (by omega)]; exact h7
  · rw [upN (by omega), e _ _ (by omega)]; exact h8
  · rw [upN (by omega)] at hp
    rw [upN (by omega), e _ _ (by omega)]; exact (g1 p hp).1
  · rw [upN (by omega)] at hp
    rw [upN (by omega), e _ _ (by omega)]; exact (g1 p hp).2
  · rw [upN (by omega)] at hp
    rw [upN (by omega), e _ _ (by omega)]; exact (g2 p hp).1
  · rw [upN (by omega)] at hp
    rw [upN (by omega), e _ _ (by omega)]; exact (g2 p hp).2
  · rw [upN (by omega)] at hp
    rw [upN (by omega), e _ _ (by omega)]; exact (g3 p hp)
  · rw [upN (by omega)] at hp
    rw [upN (by omega), e _ _ (by omega)]; exact (g4 p hp)
  · rw [upN (by omega)] at hp
    rw [upN (by omega), e _ _ (by omega)]; exact (g5 p hp)
  · rw [upN (by omega)] at hp
    rw [upN (by omega), e _ _ (by omega)]; exact (g6 p hp).1
  · rw [upN (by omega)] at hp
    rw [upN (by omega), e _ _ (by omega)]; exact (g6 p hp).2.1
  · rw [upN (by omega)] at hp
    rw [upN (by omega), e _ _ (by omega)]; exact (g6 p hp).2.2.1
  · rw [upN (by omega)] at hp
    rw [upN (by omega), e _ _ (by omega)]; exact (g6 p hp).2.2.2
theorem gA.c7 (h : gA c F i) {v : Nat} (e : ∀ a k, ¬ (a = c ∧ k = 15) → i' a k = i a k) (e1 : i' (c) 15 = nI v) : gA c (uF F 7 v) i' := by
  obtain ⟨⟨h1, h2, h3, h4, h5, h6, h7, h8⟩, g1, g2, g3, g4, g5, g6⟩ := h
  refine ⟨⟨?_, ?_, ?_, ?_, ?_, ?_, ?_, ?_⟩, fun p hp => ⟨?_, ?_⟩, fun p hp => ⟨?_, ?_⟩, fun p hp => ?_, fun p hp => ?_, fun p hp => ?_, fun p hp => ⟨?_, ?_, ?_, ?_⟩⟩
  · rw [upN (by omega), e _ _ (by omega)]; exact h1
  · rw [upN (by omega), e _ _ (by omega)]; exact h2
  · rw [upN (by omega), e _ _ (by omega)]; exact h3
  · rw [upN (by omega), e _ _ (by omega)]; exact h4
  · rw [upN (by omega), e _ _ (by omega)]; exact h5
  · rw [upN (by omega), e _ _ (by omega)]; exact h6
  · rw [upE]; exact e1
  · rw [upN (by omega), e _ _ (by omega)]; exact h8
  · rw [upN (by omega)] at hp
    rw [upN (by omega), e _ _ (by omega)]; exact (g1 p hp).1
  · rw [upN (by omega)] at hp
    rw [upN (by omega), e _ _ (by omega)]; exact (g1 p hp).2
  · rw [upN (by omega)] at hp
    rw [upN (by omega), e _ _ (by omega)]; exact (g2 p hp).1
  · rw [upN (by omega)] at hp
    rw [upN (by omega), e _ _ (by omega)]; exact (g2 p hp).2
  · rw [upN (by omega)] at hp
    rw [upN (by omega), e _ _ (by omega)]; exact (g3 p hp)
  · rw [upN (by omega)] at hp
    rw [upN (by omega), e _ _ (by omega)]; exact (g4 p hp)
  · rw [upN (by omega)] at hp
    rw [upN (by omega), e _ _ (by omega)]; exact (g5 p hp)
  · rw [upN (by omega)] at hp
    rw [upN (by omega), e _ _ (by omega)]; exact (g6 p hp).1
  · rw [upN (by omega)] at hp
    rw [upN (by omega), e _ _ (by omega)]; exact (g6 p hp).2.1
  · rw [upN (by omega)] at hp
    rw [upN (by omega), e _ _ (by omega)]; exact (g6 p hp).2.2.1
  · rw [upN (by omega)] at hp
    rw [upN (by omega), e _ _ (by omega)]; exact (g6 p hp).2.2.2
theorem gA.t (h : gA c F i) {m v : Nat} (hm : m < 4) (hb : F 1 ≤ 6 ∧ F 2 ≤ 6 ∧ F 3 ≤ 4 ∧ F 6 ≤ 3) (e : ∀ a k, ¬ (a = c + 6 ∧ k = m) → i' a k = i a k) (e1 : i' (c + 6) m = tI v) : gA c (uF F (41 + m) v) i' := by
  obtain ⟨⟨h1, h2, h3, h4, h5, h6, h7, h8⟩, g1, g2, g3, g4, g5, g6⟩ := h
  refine ⟨⟨?_, ?_, ?_, ?_, ?_, ?_, ?_, ?_⟩, fun p hp => ⟨?_, ?_⟩, fun p hp => ⟨?_, ?_⟩, fun p hp => ?_, fun p hp => ?_, fun p hp => ?_, fun p hp => ⟨?_, ?_, ?_, ?_⟩⟩
  · rw [upN (by omega), e _ _ (by omega)]; exact h1
  · rw [upN (by omega), e _ _ (by omega)]; exact h2
  · rw [upN (by omega), e _ _ (by omega)]; exact h3
  · rw [upN (by omega), e _ _ (by omega)]; exact h4
  · rw [upN (by omega), e _ _ (by omega)]; exact h5
  · rw [upN (by omega), e _ _ (by omega)]; exact h6
  · rw [upN (by omega), e _ _ (by omega)]; exact h7
  · rw [upN (by omega), e _ _ (by omega)]; exact h8
  · rw [upN (by omega)] at hp
    rw [upN (by omega), e _ _ (by omega)]; exact (g1 p hp).1
  · rw [upN (by omega)] at hp
    rw [upN (by omega), e _ _ (by omega)]; exact (g1 p hp).2
  · rw [upN (by omega)] at hp
    rw [upN (by omega), e _ _ (by omega)]; exact (g2 p hp).1
  · rw [upN (by omega)] at hp
    rw [upN (by omega), e _ _ (by omega)]; exact (g2 p hp).2
  · rw [upN (by omega)] at hp
    rw [upN (by omega), e _ _ (by omega)]; exact (g3 p hp)
  · rw [upN (by omega)] at hp
    by_cases z : p = m
    · rw [z, upE]; exact e1
    · rw [upN (by omega), e _ _ (by omega)]; exact (g4 p hp)
  · rw [upN (by omega)] at hp
    rw [upN (by omega), e _ _ (by omega)]; exact (g5 p hp)
  · rw [upN (by omega)] at hp
    rw [upN (by omega), e _ _ (by omega)]; exact (g6 p hp).1
  · rw [upN (by omega)] at hp
    rw [upN (by omega), e _ _ (by omega)]; exact (g6 p hp).2.1
  · rw [upN (by omega)] at hp
    rw [upN (by omega), e _ _ (by omega)]; exact (g6 p hp).2.2.1
  · rw [upN (by omega)] at hp
    rw [upN (by omega), e _ _ (by omega)]; exact (g6 p hp).2.2.2
end GR
