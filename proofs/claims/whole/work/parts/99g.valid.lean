/-! what holds of the letter at the end of each line -/
def vF (A : Nat → Nat) : Prop :=
  (A 0 ≤ 100 ∧ A 1 ≤ 6 ∧ A 2 ≤ 6 ∧ A 3 ≤ 4 ∧ A 4 ≤ 4 ∧ A 6 ≤ 3 ∧ A 8 ≤ 6) ∧
  (∀ p, p < A 1 → A (10 + 2 * p) ≤ 99 ∧ 1 ≤ A (11 + 2 * p) ∧ A (11 + 2 * p) ≤ 9) ∧
  (∀ p q, p < A 1 → q < A 1 → p ≠ q → A (10 + 2 * p) ≠ A (10 + 2 * q)) ∧
  (∀ k, k < A 2 → A (22 + 2 * k) < A 1 ∧ A (23 + 2 * k) < A 1 ∧ A (22 + 2 * k) ≠ A (23 + 2 * k)) ∧
  (∀ k j, k < A 2 → j < A 2 → k ≠ j → ¬ (A (22 + 2 * k) = A (22 + 2 * j) ∧ A (23 + 2 * k) = A (23 + 2 * j)) ∧ ¬ (A (22 + 2 * k) = A (23 + 2 * j) ∧ A (23 + 2 * k) = A (22 + 2 * j))) ∧
  (∀ h, h < A 3 → A (34 + h) ≤ 99) ∧
  (∀ k, k < A 6 → A (38 + k) < A 1) ∧
  (∀ m, m < A 4 → A (41 + m) ≤ 4 ∧ A (41 + m) ≠ 2) ∧
  (∀ b, b < A 8 → A (45 + 4 * b) < A 3 ∧ A (46 + 4 * b) < A 1 ∧ 1 ≤ A (47 + 4 * b) ∧ A (47 + 4 * b) ≤ 9 ∧ A (48 + 4 * b) ≤ 99)
def dc (x : Nat) : Nat := if x = 0 then 0 else 1
def vT (F : Nat → Nat) : Prop := (∀ m, F 4 ≤ m → m < 4 → F (41 + m) = 0) ∧ F 7 = dc (F 41) + dc (F 42) + dc (F 43) + dc (F 44)
theorem dc_b (x : Nat) : dc x ≤ 1 := by unfold dc; split <;> omega
theorem vF_vA {F : Nat → Nat} (h : vF F) (t : vT F) (h1 : F 1 ≠ 0) : vA F := by
  obtain ⟨⟨a0, a1, a2, a3, a4, a6, a8⟩, b1, b2, b3, b4, b5, b6, b7, b8⟩ := h
  have d1 := dc_b (F 41)
  have d2 := dc_b (F 42)
  have d3 := dc_b (F 43)
  have d4 := dc_b (F 44)
  have := t.2
  exact ⟨⟨a0, a1, a2, a3, a4, a6, by omega, a8⟩, b1, b2, b3, b4, b5, b6, b7, b8, fun z => absurd z h1⟩
def VV (tp : Nat → Nat) (n : Nat) (F R : Nat → Nat) (N : nT) : Prop := vF F ∧ vP F R ∧ VN tp n F N ∧ vT F
def adN (N : nT) (x : Nat × Nat × Nat × Nat) : nT := (N.1 + 1, fun i => if i = N.1 then x else N.2 i)
theorem adN_n (N : nT) (x : Nat × Nat × Nat × Nat) : (adN N x).2 N.1 = x := if_pos rfl
theorem adN_o {N : nT} {x : Nat × Nat × Nat × Nat} {i : Nat} (h : i < N.1) : (adN N x).2 i = N.2 i := if_neg (by omega)
theorem vP.m {F F' R : Nat → Nat} (h : vP F R) (h1 : F 1 ≤ F' 1) (h3 : F 3 ≤ F' 3) (h4 : F 4 ≤ F' 4) (hu : ∀ p, p < F' 1 → used R p (R 48) ≤ F' (11 + 2 * p)) : vP F' R := by
  obtain ⟨⟨b1, b2, b3⟩, b4⟩ := h
  refine ⟨⟨b1, Nat.lt_of_lt_of_le b2 (Nat.pow_le_pow_right (by omega) h1), fun k hk => ?_⟩, hu⟩
  have := b3 k hk
  omega
theorem used_no {R : Nat → Nat} {p : Nat} : ∀ {n : Nat}, (∀ k, k < n → R (6 * k + 1) ≠ p) → used R p n = 0
  | 0, _ => rfl
  | n + 1, h => by
    have := used_no (n := n) (fun k hk => h k (by omega))
    unfold used at this ⊢
    rw [sm, this, if_neg (h n (by omega))]
section VS
variable {tp F F' R : Nat → Nat} {n a e : Nat} {N : nT}
theorem VN.s (h : VN tp n F N) (e1 : F' 1 = F 1) (e3 : F' 3 = F 3) (e4 : F' 4 = F 4) : VN tp n F' N := by
  unfold VN at h ⊢
  rw [e1, e3, e4]
  exact h
/-- the name at hand, if it is new -/
def nmN (tp : Nat → Nat) (n : Nat) (N : nT) (a e : Nat) : Prop := a < e ∧ e ≤ a + 8 ∧ e ≤ n ∧ (∀ k, k < e - a → tp (a + k) < 128) ∧ ∀ i, i < N.1 → sT tp a e (N.2 i) = false
theorem VN.add (h : VN tp n F N) {s k : Nat} (g1 : F 1 ≤ F' 1) (g3 : F 3 ≤ F' 3) (g4 : F 4 ≤ F' 4) (gs : F' 1 + F' 3 + F' 4 = F 1 + F 3 + F 4 + 1) (hs : (s = 2 ∧ k < F' 1) ∨ (s = 4 ∧ k < F' 3) ∨ (s = 5 ∧ k < F' 4)) (hn : nmN tp n N a e) : VN tp n F' (adN N (a, e - a, s, k)) := by
  obtain ⟨v1, v2, v3⟩ := h
  obtain ⟨n1, n2, n3, n4, n5⟩ := hn
  refine ⟨by show N.1 + 1 = _; omega, fun i hi => ?_, fun i j hi hj hij => ?_⟩
  · by_cases z : i = N.1
    · rw [z, adN_n]
      exact ⟨⟨by show 1 ≤ e - a; omega, by show e - a ≤ 8; omega, by show a + (e - a) ≤ n; omega, n4⟩, hs⟩
    · have hi : i < N.1 := by have : i < N.1 + 1 := hi; omega
      rw [adN_o hi]
      refine ⟨(v2 i hi).1, ?_⟩
      have := (v2 i hi).2
      omega
  · have hi : i < N.1 + 1 := hi
    have hj : j < N.1 + 1 := hj
    by_cases z : i = N.1
    · have hj : j < N.1 := by omega
      rw [z, adN_n, adN_o hj]
      show sT tp a (a + (e - a)) (N.2 j) = false
      rw [show a + (e - a) = e by omega]
      exact n5 j hj
    · have hi : i < N.1 := by omega
      rw [adN_o hi]
      by_cases y : j = N.1
      · rw [y, adN_n]
        cases q : sT tp (N.2 i).1 ((N.2 i).1 + (N.2 i).2.1) (a, e - a, s, k) with
        | false => rfl
        | true =>
          obtain ⟨q1, q2⟩ := sT_iff.mp q
          rw [Nat.add_sub_cancel_left] at q1 q2
          have q1 : e - a = (N.2 i).2.1 := q1
          have := n5 i hi
          rw [show sT tp a e (N.2 i) = true from sT_iff.mpr ⟨q1.symm, fun l hl => (q2 l (by omega)).symm⟩] at this
          exact this
      · have hj : j < N.1 := by omega
        rw [adN_o hj]
        exact v3 i j hi hj hij
theorem VV.place (h : VV tp n F R N) {r w : Nat} (b : F 1 < 6) (f1 : F' 1 = F 1 + 1) (f2 : F' (10 + 2 * F 1) = r) (f3 : F' (11 + 2 * F 1) = w) (eF : ∀ k, k ≠ 1 → k ≠ 10 + 2 * F 1 → k ≠ 11 + 2 * F 1 → F' k = F k) (hr : r ≤ 99) (hw : 1 ≤ w ∧ w ≤ 9) (hd : ∀ p, p < F 1 → F (10 + 2 * p) ≠ r) (hn : nmN tp n N a e) : VV tp n F' R (adN N (a, e - a, 2, F 1)) := by
  obtain ⟨⟨⟨a0, a1, a2, a3, a4, a6, a8⟩, b1, b2, b3, b4, b5, b6, b7, b8⟩, hP, hV, t1, t2⟩ := h
  have z0 := eF 0 (by omega) (by omega) (by omega)
  have z2 := eF 2 (by omega) (by omega) (by omega)
  have z3 := eF 3 (by omega) (by omega) (by omega)
  have z4 := eF 4 (by omega) (by omega) (by omega)
  have z6 := eF 6 (by omega) (by omega) (by omega)
  have z7 := eF 7 (by omega) (by omega) (by omega)
  have z8 := eF 8 (by omega) (by omega) (by omega)
  have eG : ∀ k, 22 ≤ k → F' k = F k := fun k hk => eF k (by omega) (by omega) (by omega)
  refine ⟨⟨by rw [z0, f1, z2, z3, z4, z6, z8]; exact ⟨a0, by omega, a2, a3, a4, a6, a8⟩, fun p hp => ?_, fun p q hp hq hpq => ?_, fun k hk => ?_, fun k j hk hj hkj => ?_, fun k hk => ?_, fun k hk => ?_, fun k hk => ?_, fun k hk => ?_⟩, hP.m (by omega) (by omega) (by omega) (fun p hp => ?_), hV.add (by omega) (by omega) (by omega) (by omega) (by omega) hn, fun m h1 h2 => ?_, ?_⟩
  · by_cases z : p = F 1
    · rw [z, f2, f3]; exact ⟨hr, hw⟩
    · rw [eF _ (by omega) (by omega) (by omega), eF _ (by omega) (by omega) (by omega)]; exact b1 p (by omega)
  · by_cases z : p = F 1
    · rw [z, f2, eF _ (by omega) (by omega) (by omega)]; exact (hd q (by omega)).symm
    · by_cases y : q = F 1
      · rw [y, f2, eF _ (by omega) (by omega) (by omega)]; exact hd p (by omega)
      · rw [eF _ (by omega) (by omega) (by omega), eF _ (by omega) (by omega) (by omega)]; exact b2 p q (by omega) (by omega) hpq
  · rw [f1, eG _ (by omega), eG _ (by omega)]
    have := b3 k (by omega)
    omega
  · rw [eG _ (by omega), eG _ (by omega), eG _ (by omega), eG _ (by omega)]
    exact b4 k j (by omega) (by omega) hkj
  · rw [eG _ (by omega)]; exact b5 k (by omega)
  · rw [f1, eG _ (by omega)]
    have := b6 k (by omega)
    omega
  · rw [eG _ (by omega)]; exact b7 k (by omega)
  · rw [f1, z3, eG _ (by omega), eG _ (by omega), eG _ (by omega), eG _ (by omega)]
    have := b8 k (by omega)
    omega
  · by_cases z : p = F 1
    · rw [z, f3, used_no (fun k hk => by have := (hP.1.2.2 k hk).2.1; omega)]; omega
    · rw [eF _ (by omega) (by omega) (by omega)]; exact hP.2 p (by omega)
  · rw [eG _ (by omega)]; exact t1 m (by omega) h2
  · rw [z7, eG _ (by omega), eG _ (by omega), eG _ (by omega), eG _ (by omega)]; exact t2
theorem VV.over (h : VV tp n F R N) {p q : Nat} (b : F 2 < 6) (f1 : F' 2 = F 2 + 1) (f2 : F' (22 + 2 * F 2) = p) (f3 : F' (23 + 2 * F 2) = q) (eF : ∀ k, k ≠ 2 → k ≠ 22 + 2 * F 2 → k ≠ 23 + 2 * F 2 → F' k = F k) (hp : p < F 1) (hq : q < F 1) (hpq : p ≠ q) (hd : ∀ k, k < F 2 → ¬ (F (22 + 2 * k) = p ∧ F (23 + 2 * k) = q) ∧ ¬ (F (22 + 2 * k) = q ∧ F (23 + 2 * k) = p)) : VV tp n F' R N := by
  obtain ⟨⟨⟨a0, a1, a2, a3, a4, a6, a8⟩, b1, b2, b3, b4, b5, b6, b7, b8⟩, hP, hV, t1, t2⟩ := h
  have eG : ∀ k, k ≠ 2 → k < 22 ∨ 34 ≤ k → F' k = F k := fun k h1 h2 => eF k h1 (by omega) (by omega)
  have z0 := eG 0 (by omega) (by omega)
  have z1 := eG 1 (by omega) (by omega)
  have z3 := eG 3 (by omega) (by omega)
  have z4 := eG 4 (by omega) (by omega)
  have z6 := eG 6 (by omega) (by omega)
  have z7 := eG 7 (by omega) (by omega)
  have z8 := eG 8 (by omega) (by omega)
  refine ⟨⟨by rw [z0, z1, f1, z3, z4, z6, z8]; exact ⟨a0, a1, by omega, a3, a4, a6, a8⟩, fun p hp => ?_, fun p q hp hq hpq => ?_, fun k hk => ?_, fun k j hk hj hkj => ?_, fun k hk => ?_, fun k hk => ?_, fun k hk => ?_, fun k hk => ?_⟩, hP.m (by omega) (by omega) (by omega) (fun p hp => ?_), hV.s z1 z3 z4, fun m h1 h2 => ?_, ?_⟩
  · rw [eG _ (by omega) (by omega), eG _ (by omega) (by omega)]; exact b1 p (by omega)
  · rw [eG _ (by omega) (by omega), eG _ (by omega) (by omega)]; exact b2 p q (by omega) (by omega) hpq
  · rw [z1]
    by_cases z : k = F 2
    · rw [z, f2, f3]; exact ⟨hp, hq, hpq⟩
    · rw [eF _ (by omega) (by omega) (by omega), eF _ (by omega) (by omega) (by omega)]; exact b3 k (by omega)
  · by_cases z : k = F 2
    · rw [z, f2, f3, eF _ (by omega) (by omega) (by omega), eF _ (by omega) (by omega) (by omega)]
      have := hd j (by omega)
      exact ⟨fun y => this.1 ⟨y.1.symm, y.2.symm⟩, fun y => this.2 ⟨y.2.symm, y.1.symm⟩⟩
    · rw [eF (22 + 2 * k) (by omega) (by omega) (by omega), eF (23 + 2 * k) (by omega) (by omega) (by omega)]
      by_cases y : j = F 2
      · rw [y, f2, f3]; exact hd k (by omega)
      · rw [eF (22 + 2 * j) (by omega) (by omega) (by omega), eF (23 + 2 * j) (by omega) (by omega) (by omega)]; exact b4 k j (by omega) (by omega) hkj
  · rw [eG _ (by omega) (by omega)]; exact b5 k (by omega)
  · rw [z1, eG _ (by omega) (by omega)]; exact b6 k (by omega)
  · rw [eG _ (by omega) (by omega)]; exact b7 k (by omega)
  · rw [z1, z3, eG _ (by omega) (by omega), eG _ (by omega) (by omega), eG _ (by omega) (by omega), eG _ (by omega) (by omega)]; exact b8 k (by omega)
  · rw [eG _ (by omega) (by omega)]; exact hP.2 p (by omega)
  · rw [eG _ (by omega) (by omega)]; exact t1 m (by omega) h2
  · rw [z7, eG _ (by omega) (by omega), eG _ (by omega) (by omega), eG _ (by omega) (by omega), eG _ (by omega) (by omega)]; exact t2
theorem VV.hand (h : VV tp n F R N) {v : Nat} (b : F 3 < 4) (f1 : F' 3 = F 3 + 1) (f2 : F' (34 + F 3) = v) (eF : ∀ k, k ≠ 3 → k ≠ 34 + F 3 → F' k = F k) (hv : v ≤ 99) (hn : nmN tp n N a e) : VV tp n F' R (adN N (a, e - a, 4, F 3)) := by
  obtain ⟨⟨⟨a0, a1, a2, a3, a4, a6, a8⟩, b1, b2, b3, b4, b5, b6, b7, b8⟩, hP, hV, t1, t2⟩ := h
  have eG : ∀ k, k ≠ 3 → k < 34 ∨ 38 ≤ k → F' k = F k := fun k h1 h2 => eF k h1 (by omega)
  have z0 := eG 0 (by omega) (by omega)
  have z1 := eG 1 (by omega) (by omega)
  have z2 := eG 2 (by omega) (by omega)
  have z4 := eG 4 (by omega) (by omega)
  have z6 := eG 6 (by omega) (by omega)
  have z7 := eG 7 (by omega) (by omega)
  have z8 := eG 8 (by omega) (by omega)
  refine ⟨⟨by rw [z0, z1, f1, z2, z4, z6, z8]; exact ⟨a0, a1, a2, by omega, a4, a6, a8⟩, fun p hp => ?_, fun p q hp hq hpq => ?_, fun k hk => ?_, fun k j hk hj hkj => ?_, fun k hk => ?_, fun k hk => ?_, fun k hk => ?_, fun k hk => ?_⟩, hP.m (by omega) (by omega) (by omega) (fun p hp => ?_), hV.add (by omega) (by omega) (by omega) (by omega) (by omega) hn, fun m h1 h2 => ?_, ?_⟩
  · rw [eG _ (by omega) (by omega), eG _ (by omega) (by omega)]; exact b1 p (by omega)
  · rw [eG _ (by omega) (by omega), eG _ (by omega) (by omega)]; exact b2 p q (by omega) (by omega) hpq
  · rw [z1, eG _ (by omega) (by omega), eG _ (by omega) (by omega)]; exact b3 k (by omega)
  · rw [eG (22 + 2 * k) (by omega) (by omega), eG (23 + 2 * k) (by omega) (by omega), eG (22 + 2 * j) (by omega) (by omega), eG (23 + 2 * j) (by omega) (by omega)]; exact b4 k j (by omega) (by omega) hkj
  · by_cases z : k = F 3
    · rw [z, f2]; exact hv
    · rw [eF _ (by omega) (by omega)]; exact b5 k (by omega)
  · rw [z1, eG _ (by omega) (by omega)]; exact b6 k (by omega)
  · rw [eG _ (by omega) (by omega)]; exact b7 k (by omega)
  · rw [z1, f1, eG _ (by omega) (by omega), eG _ (by omega) (by omega), eG _ (by omega) (by omega), eG _ (by omega) (by omega)]
    have := b8 k (by omega)
    omega
  · rw [eG _ (by omega) (by omega)]; exact hP.2 p (by omega)
  · rw [eG _ (by omega) (by omega)]; exact t1 m (by omega) h2
  · rw [z7, eG _ (by omega) (by omega), eG _ (by omega) (by omega), eG _ (by omega) (by omega), eG _ (by omega) (by omega)]; exact t2
theorem VV.matter (h : VV tp n F R N) (b : F 4 < 4) (f1 : F' 4 = F 4 + 1) (eF : ∀ k, k ≠ 4 → F' k = F k) (hn : nmN tp n N a e) : VV tp n F' R (adN N (a, e - a, 5, F 4)) := by
  obtain ⟨⟨⟨a0, a1, a2, a3, a4, a6, a8⟩, b1, b2, b3, b4, b5, b6, b7, b8⟩, hP, hV, t1, t2⟩ := h
  have z0 := eF 0 (by omega)
  have z1 := eF 1 (by omega)
  have z2 := eF 2 (by omega)
  have z3 := eF 3 (by omega)
  have z6 := eF 6 (by omega)
  have z7 := eF 7 (by omega)
  have z8 := eF 8 (by omega)
  refine ⟨⟨by rw [z0, z1, f1, z2, z3, z6, z8]; exact ⟨a0, a1, a2, a3, by omega, a6, a8⟩, fun p hp => ?_, fun p q hp hq hpq => ?_, fun k hk => ?_, fun k j hk hj hkj => ?_, fun k hk => ?_, fun k hk => ?_, fun k hk => ?_, fun k hk => ?_⟩, hP.m (by omega) (by omega) (by omega) (fun p hp => ?_), hV.add (by omega) (by omega) (by omega) (by omega) (by omega) hn, fun m h1 h2 => ?_, ?_⟩
  · rw [eF _ (by omega), eF _ (by omega)]; exact b1 p (by omega)
  · rw [eF _ (by omega), eF _ (by omega)]; exact b2 p q (by omega) (by omega) hpq
  · rw [z1, eF _ (by omega), eF _ (by omega)]; exact b3 k (by omega)
  · rw [eF (22 + 2 * k) (by omega), eF (23 + 2 * k) (by omega), eF (22 + 2 * j) (by omega), eF (23 + 2 * j) (by omega)]; exact b4 k j (by omega) (by omega) hkj
  · rw [eF _ (by omega)]; exact b5 k (by omega)
  · rw [z1, eF _ (by omega)]; exact b6 k (by omega)
  · rw [eF _ (by omega)]
    by_cases z : k = F 4
    · rw [z, t1 (F 4) (by omega) b]; omega
    · exact b7 k (by omega)
  · rw [z1, z3, eF _ (by omega), eF _ (by omega), eF _ (by omega), eF _ (by omega)]; exact b8 k (by omega)
  · rw [eF _ (by omega)]; exact hP.2 p (by omega)
  · rw [eF _ (by omega)]; exact t1 m (by omega) h2
  · rw [z7, eF _ (by omega), eF _ (by omega), eF _ (by omega), eF _ (by omega)]; exact t2
theorem vF.s (h : vF F) (eF : ∀ k, k ≠ 5 → k ≠ 9 → F' k = F k) : vF F' := by
  have e : ∀ k, k ≠ 5 ∧ k ≠ 9 → F' k = F k := fun k z => eF k z.1 z.2
  obtain ⟨⟨a0, a1, a2, a3, a4, a6, a8⟩, b1, b2, b3, b4, b5, b6, b7, b8⟩ := h
  have z1 := e 1 (by omega)
  have z2 := e 2 (by omega)
  have z3 := e 3 (by omega)
  have z4 := e 4 (by omega)
  have z6 := e 6 (by omega)
  have z8 := e 8 (by omega)
  refine ⟨by rw [e 0 (by omega), z1, z2, z3, z4, z6, z8]; exact ⟨a0, a1, a2, a3, a4, a6, a8⟩, fun p hp => ?_, fun p q hp hq hpq => ?_, fun k hk => ?_, fun k j hk hj hkj => ?_, fun k hk => ?_, fun k hk => ?_, fun k hk => ?_, fun k hk => ?_⟩
  · rw [e _ (by omega), e _ (by omega)]; exact b1 p (by omega)
  · rw [e _ (by omega), e _ (by omega)]; exact b2 p q (by omega) (by omega) hpq
  · rw [z1, e _ (by omega), e _ (by omega)]; exact b3 k (by omega)
  · rw [e (22 + 2 * k) (by omega), e (23 + 2 * k) (by omega), e (22 + 2 * j) (by omega), e (23 + 2 * j) (by omega)]; exact b4 k j (by omega) (by omega) hkj
  · rw [e _ (by omega)]; exact b5 k (by omega)
  · rw [z1, e _ (by omega)]; exact b6 k (by omega)
  · rw [e _ (by omega)]; exact b7 k (by omega)
  · rw [z1, z3, e _ (by omega), e _ (by omega), e _ (by omega), e _ (by omega)]; exact b8 k (by omega)
theorem VV.wrote (h : VV tp n F R N) {x y m s w v : Nat} (b : R 48 < 8) (hh : x < F 3) (hp : y < F 1) (hm : m < F 4) (hs : s ≤ 1) (hw : 1 ≤ w ∧ w ≤ 9) (hr : w ≤ room F R y) : VV tp n (uF F 5 v) (layB R x y m s w) N := by
  obtain ⟨hF, hP, hV, t1, t2⟩ := h
  have e : ∀ k, k ≠ 5 → uF F 5 v k = F k := fun k z => upN z
  refine ⟨hF.s (fun k z _ => e k z), ?_, hV.s (e _ (by omega)) (e _ (by omega)) (e _ (by omega)), fun m h1 h2 => ?_, ?_⟩
  · have q := vP_lay hP b hh hp hm hs hw.1 hw.2 hr
    exact q.m (by rw [e _ (by omega)]; exact Nat.le_refl _) (by rw [e _ (by omega)]; exact Nat.le_refl _) (by rw [e _ (by omega)]; exact Nat.le_refl _) (fun p hp => by rw [e _ (by omega)] at hp ⊢; exact q.2 p hp)
  · rw [e _ (by omega)] at h1 ⊢; exact t1 m h1 h2
  · rw [e _ (by omega), e _ (by omega), e _ (by omega), e _ (by omega), e _ (by omega)]; exact t2
theorem VV.hidden (h : VV tp n F R N) {v : Nat} (b : F 6 < 3) (f1 : F' 6 = F 6 + 1) (f2 : F' (38 + F 6) = v) (eF : ∀ k, k ≠ 6 → k ≠ 38 + F 6 → F' k = F k) (hv : v < F 1) : VV tp n F' R N := by
  obtain ⟨⟨⟨a0, a1, a2, a3, a4, a6, a8⟩, b1, b2, b3, b4, b5, b6, b7, b8⟩, hP, hV, t1, t2⟩ := h
  have eG : ∀ k, k ≠ 6 → k < 38 ∨ 41 ≤ k → F' k = F k := fun k h1 h2 => eF k h1 (by omega)
  have z0 := eG 0 (by omega) (by omega)
  have z1 := eG 1 (by omega) (by omega)
  have z2 := eG 2 (by omega) (by omega)
  have z3 := eG 3 (by omega) (by omega)
  have z4 := eG 4 (by omega) (by omega)
  have z7 := eG 7 (by omega) (by omega)
  have z8 := eG 8 (by omega) (by omega)
  refine ⟨⟨by rw [z0, z1, f1, z2, z3, z4, z8]; exact ⟨a0, a1, a2, a3, a4, by omega, a8⟩, fun p hp => ?_, fun p q hp hq hpq => ?_, fun k hk => ?_, fun k j hk hj hkj => ?_, fun k hk => ?_, fun k hk => ?_, fun k hk => ?_, fun k hk => ?_⟩, hP.m (by omega) (by omega) (by omega) (fun p hp => ?_), hV.s z1 z3 z4, fun m h1 h2 => ?_, ?_⟩
  · rw [eG _ (by omega) (by omega), eG _ (by omega) (by omega)]; exact b1 p (by omega)
  · rw [eG _ (by omega) (by omega), eG _ (by omega) (by omega)]; exact b2 p q (by omega) (by omega) hpq
  · rw [z1, eG _ (by omega) (by omega), eG _ (by omega) (by omega)]; exact b3 k (by omega)
  · rw [eG (22 + 2 * k) (by omega) (by omega), eG (23 + 2 * k) (by omega) (by omega), eG (22 + 2 * j) (by omega) (by omega), eG (23 + 2 * j) (by omega) (by omega)]; exact b4 k j (by omega) (by omega) hkj
  · rw [eG _ (by omega) (by omega)]; exact b5 k (by omega)
  · rw [z1]
    by_cases z : k = F 6
    · rw [z, f2]; exact hv
    · rw [eF _ (by omega) (by omega)]; exact b6 k (by omega)
  · rw [eG _ (by omega) (by omega)]; exact b7 k (by omega)
  · rw [z1, z3, eG _ (by omega) (by omega), eG _ (by omega) (by omega), eG _ (by omega) (by omega), eG _ (by omega) (by omega)]; exact b8 k (by omega)
  · rw [eG _ (by omega) (by omega)]; exact hP.2 p (by omega)
  · rw [eG _ (by omega) (by omega)]; exact t1 m (by omega) h2
  · rw [z7, eG _ (by omega) (by omega), eG _ (by omega) (by omega), eG _ (by omega) (by omega), eG _ (by omega) (by omega)]; exact t2
theorem VV.done (h : VV tp n F R N) {m v : Nat} (b : m < F 4) (f1 : F' 7 = F 7 + 1) (f2 : F' (41 + m) = v) (eF : ∀ k, k ≠ 7 → k ≠ 41 + m → F' k = F k) (h0 : F (41 + m) = 0) (hv : v = 1 ∨ v = 3 ∨ v = 4) : VV tp n F' R N := by
  obtain ⟨⟨⟨a0, a1, a2, a3, a4, a6, a8⟩, b1, b2, b3, b4, b5, b6, b7, b8⟩, hP, hV, t1, t2⟩ := h
  have eG : ∀ k, k ≠ 7 → k < 41 ∨ 45 ≤ k → F' k = F k := fun k h1 h2 => eF k h1 (by omega)
  have z0 := eG 0 (by omega) (by omega)
  have z1 := eG 1 (by omega) (by omega)
  have z2 := eG 2 (by omega) (by omega)
  have z3 := eG 3 (by omega) (by omega)
  have z4 := eG 4 (by omega) (by omega)
  have z6 := eG 6 (by omega) (by omega)
  have z8 := eG 8 (by omega) (by omega)
  refine ⟨⟨by rw [z0, z1, z2, z3, z4, z6, z8]; exact ⟨a0, a1, a2, a3, a4, a6, a8⟩, fun p hp => ?_, fun p q hp hq hpq => ?_, fun k hk => ?_, fun k j hk hj hkj => ?_, fun k hk => ?_, fun k hk => ?_, fun k hk => ?_, fun k hk => ?_⟩, hP.m (by omega) (by omega) (by omega) (fun p hp => ?_), hV.s z1 z3 z4, fun m' h1 h2 => ?_, ?_⟩
  · rw [eG _ (by omega) (by omega), eG _ (by omega) (by omega)]; exact b1 p (by omega)
  · rw [eG _ (by omega) (by omega), eG _ (by omega) (by omega)]; exact b2 p q (by omega) (by omega) hpq
  · rw [z1, eG _ (by omega) (by omega), eG _ (by omega) (by omega)]; exact b3 k (by omega)
  · rw [eG (22 + 2 * k) (by omega) (by omega), eG (23 + 2 * k) (by omega) (by omega), eG (22 + 2 * j) (by omega) (by omega), eG (23 + 2 * j) (by omega) (by omega)]; exact b4 k j (by omega) (by omega) hkj
  · rw [eG _ (by omega) (by omega)]; exact b5 k (by omega)
  · rw [z1, eG _ (by omega) (by omega)]; exact b6 k (by omega)
  · by_cases z : k = m
    · rw [z, f2]; omega
    · rw [eF _ (by omega) (by omega)]; exact b7 k (by omega)
  · rw [z1, z3, eG _ (by omega) (by omega), eG _ (by omega) (by omega), eG _ (by omega) (by omega), eG _ (by omega) (by omega)]; exact b8 k (by omega)
  · rw [eG _ (by omega) (by omega)]; exact hP.2 p (by omega)
  · rw [eF _ (by omega) (by omega)]; exact t1 m' (by omega) h2
  · have dv : dc v = 1 := if_neg (by omega)
    have d0 : dc (F (41 + m)) = 0 := if_pos h0
    have hm : m = 0 ∨ m = 1 ∨ m = 2 ∨ m = 3 := by omega
    rcases hm with rfl | rfl | rfl | rfl
    · rw [f1, t2, eF 42 (by omega) (by omega), eF 43 (by omega) (by omega), eF 44 (by omega) (by omega), show F' 41 = v from f2, dv, show dc (F 41) = 0 from d0]; omega
    · rw [f1, t2, eF 41 (by omega) (by omega), eF 43 (by omega) (by omega), eF 44 (by omega) (by omega), show F' 42 = v from f2, dv, show dc (F 42) = 0 from d0]; omega
    · rw [f1, t2, eF 41 (by omega) (by omega), eF 42 (by omega) (by omega), eF 44 (by omega) (by omega), show F' 43 = v from f2, dv, show dc (F 43) = 0 from d0]; omega
    · rw [f1, t2, eF 41 (by omega) (by omega), eF 42 (by omega) (by omega), eF 43 (by omega) (by omega), show F' 44 = v from f2, dv, show dc (F 44) = 0 from d0]
theorem VV.bid (h : VV tp n F R N) {x y w v : Nat} (b : F 8 < 6) (f1 : F' 8 = F 8 + 1) (f2 : F' (45 + 4 * F 8) = x) (f3 : F' (46 + 4 * F 8) = y) (f4 : F' (47 + 4 * F 8) = w) (f5 : F' (48 + 4 * F 8) = v) (eF : ∀ k, k ≠ 8 → k < 45 + 4 * F 8 ∨ 48 + 4 * F 8 < k → F' k = F k) (hx : x < F 3) (hy : y < F 1) (hw : 1 ≤ w ∧ w ≤ 9) (hv : v ≤ 99) : VV tp n F' R N := by
  obtain ⟨⟨⟨a0, a1, a2, a3, a4, a6, a8⟩, b1, b2, b3, b4, b5, b6, b7, b8⟩, hP, hV, t1, t2⟩ := h
  have eG : ∀ k, k ≠ 8 → k < 45 → F' k = F k := fun k h1 h2 => eF k h1 (by omega)
  have z0 := eG 0 (by omega) (by omega)
  have z1 := eG 1 (by omega) (by omega)
  have z2 := eG 2 (by omega) (by omega)
  have z3 := eG 3 (by omega) (by omega)
  have z4 := eG 4 (by omega) (by omega)
  have z6 := eG 6 (by omega) (by omega)
  have z7 := eG 7 (by omega) (by omega)
  refine ⟨⟨by rw [z0, z1, z2, z3, z4, z6, f1]; exact ⟨a0, a1, a2, a3, a4, a6, by omega⟩, fun p hp => ?_, fun p q hp hq hpq => ?_, fun k hk => ?_, fun k j hk hj hkj => ?_, fun k hk => ?_, fun k hk => ?_, fun k hk => ?_, fun k hk => ?_⟩, hP.m (by omega) (by omega) (by omega) (fun p hp => ?_), hV.s z1 z3 z4, fun m' h1 h2 => ?_, ?_⟩
  · rw [eG _ (by omega) (by omega), eG _ (by omega) (by omega)]; exact b1 p (by omega)
  · rw [eG _ (by omega) (by omega), eG _ (by omega) (by omega)]; exact b2 p q (by omega) (by omega) hpq
  · rw [z1, eG _ (by omega) (by omega), eG _ (by omega) (by omega)]; exact b3 k (by omega)
  · rw [eG (22 + 2 * k) (by omega) (by omega), eG (23 + 2 * k) (by omega) (by omega), eG (22 + 2 * j) (by omega) (by omega), eG (23 + 2 * j) (by omega) (by omega)]; exact b4 k j (by omega) (by omega) hkj
  · rw [eG _ (by omega) (by omega)]; exact b5 k (by omega)
  · rw [z1, eG _ (by omega) (by omega)]; exact b6 k (by omega)
  · rw [eG _ (by omega) (by omega)]; exact b7 k (by omega)
  · rw [z1, z3]
    by_cases z : k = F 8
    · rw [z, f2, f3, f4, f5]; exact ⟨hx, hy, hw.1, hw.2, hv⟩
    · rw [eF _ (by omega) (by omega), eF _ (by omega) (by omega), eF _ (by omega) (by omega), eF _ (by omega) (by omega)]; exact b8 k (by omega)
  · rw [eG _ (by omega) (by omega)]; exact hP.2 p (by omega)
  · rw [eG _ (by omega) (by omega)]; exact t1 m' (by omega) h2
  · rw [z7, eG _ (by omega) (by omega), eG _ (by omega) (by omega), eG _ (by omega) (by omega), eG _ (by omega) (by omega)]; exact t2
end VS
