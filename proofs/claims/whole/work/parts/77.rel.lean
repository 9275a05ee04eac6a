/-! the class's state, and how it goes with the reference's -/
def D0 : Nat → Bool := fun _ => false
def Lc (b : Bool) : Nat := if b then 9 else 69
def tI (c : Nat) : Int32 := if c = 0 then -1 else nI c - 3
def gA (c : Nat) (A : Nat → Nat) (i : Nat → Nat → Int32) : Prop :=
  (i c 9 = nI (A 0) ∧ i c 10 = nI (A 1) ∧ i c 11 = nI (A 2) ∧ i c 12 = nI (A 3) ∧ i c 13 = nI (A 4) ∧ i c 14 = nI (A 6) ∧ i c 15 = nI (A 7) ∧ i (c + 14) 4 = nI (A 8)) ∧
  (∀ p, p < A 1 → i (c + 1) p = nI (A (10 + 2 * p)) ∧ i (c + 2) p = nI (A (11 + 2 * p))) ∧
  (∀ k, k < A 2 → i (c + 3) k = nI (A (22 + 2 * k)) ∧ i (c + 4) k = nI (A (23 + 2 * k))) ∧
  (∀ h, h < A 3 → i (c + 5) h = nI (A (34 + h))) ∧
  (∀ m, m < A 4 → i (c + 6) m = tI (A (41 + m))) ∧
  (∀ k, k < A 6 → i (c + 7) k = nI (A (38 + k))) ∧
  (∀ b, b < A 8 → i (c + 15) b = nI (A (45 + 4 * b)) ∧ i (c + 16) b = nI (A (46 + 4 * b)) ∧ i (c + 17) b = nI (A (47 + 4 * b)) ∧ i (c + 18) b = nI (A (48 + 4 * b)))
def lK (c : Nat) (R : Nat → Nat → Nat) : Prop := WC.2 c = (3, 0) ∧ (R c 0 = c + 1 ∧ R c 1 = c + 2 ∧ R c 2 = c + 3 ∧ R c 3 = c + 4 ∧ R c 4 = c + 5 ∧ R c 5 = c + 6 ∧ R c 6 = c + 7 ∧ R c 7 = c + 8 ∧ R c 8 = c + 14) ∧
  (WC.2 (c + 1) = (100, 6) ∧ WC.2 (c + 2) = (100, 6) ∧ WC.2 (c + 3) = (100, 6) ∧ WC.2 (c + 4) = (100, 6) ∧ WC.2 (c + 5) = (100, 4) ∧ WC.2 (c + 6) = (100, 4) ∧ WC.2 (c + 7) = (100, 3)) ∧
  WC.2 (c + 14) = (0, 0) ∧ (R (c + 14) 0 = c + 15 ∧ R (c + 14) 1 = c + 16 ∧ R (c + 14) 2 = c + 17 ∧ R (c + 14) 3 = c + 18) ∧ (WC.2 (c + 15) = (100, 6) ∧ WC.2 (c + 16) = (100, 6) ∧ WC.2 (c + 17) = (100, 6) ∧ WC.2 (c + 18) = (100, 6)) ∧ pK (c + 8) R
theorem lK_9 (b : Bool) : lK 9 (RC b) := by
  have := pK_17 b
  simp only [lK, RCs, WCs, and_self, Nat.reduceAdd, this]
theorem lK_69 (b : Bool) : lK 69 (RC b) := by
  have := pK_77 b
  simp only [lK, RCs, WCs, and_self, Nat.reduceAdd, this]
theorem lK_c (b : Bool) : lK (Lc b) (RC b) := by
  cases b
  · exact lK_69 false
  · exact lK_9 true
def cU (b : Bool) (A B T : Nat → Nat) (σ : zS) : Prop := σ.2 = RC b ∧ gA (Lc b) A σ.1 ∧ pI 32 B σ.1 ∧ pI (Lc b + 8) T σ.1 ∧ oJ 28 (outr A D0) (A 1) σ.1
/-- what a question may change -/
def Pc (a k : Nat) : Prop := (a = 0 ∧ k = 10) ∨ a = 30 ∨ a = 31 ∨ a = 68
theorem gA.f {c : Nat} {A : Nat → Nat} {i j : Nat → Nat → Int32} (h : gA c A i) (e : ∀ a k, c ≤ a → a ≤ c + 18 → j a k = i a k) : gA c A j := by
  obtain ⟨⟨h1, h2, h3, h4, h5, h6, h7, h8⟩, g1, g2, g3, g4, g5, g6⟩ := h
  refine ⟨⟨?_, ?_, ?_, ?_, ?_, ?_, ?_, ?_⟩, fun p hp => ⟨?_, ?_⟩, fun p hp => ⟨?_, ?_⟩, fun p hp => ?_, fun p hp => ?_, fun p hp => ?_, fun p hp => ⟨?_, ?_, ?_, ?_⟩⟩
  · rw [e _ _ (by omega) (by omega)]; exact h1
  · rw [e _ _ (by omega) (by omega)]; exact h2
  · rw [e _ _ (by omega) (by omega)]; exact h3
  · rw [e _ _ (by omega) (by omega)]; exact h4
  · rw [e _ _ (by omega) (by omega)]; exact h5
  · rw [e _ _ (by omega) (by omega)]; exact h6
  · rw [e _ _ (by omega) (by omega)]; exact h7
  · rw [e _ _ (by omega) (by omega)]; exact h8
  · rw [e _ _ (by omega) (by omega)]; exact (g1 p hp).1
  · rw [e _ _ (by omega) (by omega)]; exact (g1 p hp).2
  · rw [e _ _ (by omega) (by omega)]; exact (g2 p hp).1
  · rw [e _ _ (by omega) (by omega)]; exact (g2 p hp).2
  · rw [e _ _ (by omega) (by omega)]; exact g3 p hp
  · rw [e _ _ (by omega) (by omega)]; exact g4 p hp
  · rw [e _ _ (by omega) (by omega)]; exact g5 p hp
  · rw [e _ _ (by omega) (by omega)]; exact (g6 p hp).1
  · rw [e _ _ (by omega) (by omega)]; exact (g6 p hp).2.1
  · rw [e _ _ (by omega) (by omega)]; exact (g6 p hp).2.2.1
  · rw [e _ _ (by omega) (by omega)]; exact (g6 p hp).2.2.2
theorem pI.f {c : Nat} {B : Nat → Nat} {i j : Nat → Nat → Int32} (h : pI c B i) (e : ∀ a k, c ≤ a → a ≤ c + 5 → j a k = i a k) : pI c B j := by
  obtain ⟨h1, h2, h3, g⟩ := h
  refine ⟨?_, ?_, ?_, fun k hk => ⟨?_, ?_, ?_, ?_, ?_⟩⟩
  · rw [e _ _ (by omega) (by omega)]; exact h1
  · rw [e _ _ (by omega) (by omega)]; exact h2
  · rw [e _ _ (by omega) (by omega)]; exact h3
  · rw [e _ _ (by omega) (by omega)]; exact (g k hk).1
  · rw [e _ _ (by omega) (by omega)]; exact (g k hk).2.1
  · rw [e _ _ (by omega) (by omega)]; exact (g k hk).2.2.1
  · rw [e _ _ (by omega) (by omega)]; exact (g k hk).2.2.2.1
  · rw [e _ _ (by omega) (by omega)]; exact (g k hk).2.2.2.2
theorem oJ.f {a np : Nat} {o : Nat → Nat → Bool} {i j : Nat → Nat → Int32} (h : oJ a o np i) (e : ∀ b k, a ≤ b → b ≤ a + 1 → j b k = i b k) : oJ a o np j :=
  ⟨by rw [e _ _ (by omega) (by omega)]; exact h.1, fun p hp => by rw [e _ _ (by omega) (by omega)]; exact h.2 p hp⟩
theorem Lc_v (b : Bool) : Lc b = 9 ∨ Lc b = 69 := by cases b; exact Or.inr rfl; exact Or.inl rfl
theorem cU.f {b : Bool} {A B T : Nat → Nat} {σ τ : zS} (h : cU b A B T σ) (g : fr Pc σ τ) : cU b A B T τ := by
  have hv := Lc_v b
  exact ⟨g.1.trans h.1, h.2.1.f (fun a k _ _ => g.2 a k (by unfold Pc; omega)), h.2.2.1.f (fun a k _ _ => g.2 a k (by unfold Pc; omega)), h.2.2.2.1.f (fun a k _ _ => g.2 a k (by unfold Pc; omega)), h.2.2.2.2.f (fun a k _ _ => g.2 a k (by unfold Pc; omega))⟩
/-- a page has the room that it uses -/
def used (B : Nat → Nat) (p n : Nat) : Nat := sm (fun k => if B (6 * k + 1) = p then B (6 * k + 4) else 0) n
def room (A B : Nat → Nat) (p : Nat) : Nat := A (11 + 2 * p) - used B p (B 48)
def vP (A B : Nat → Nat) : Prop := vB A B ∧ ∀ p, p < A 1 → used B p (B 48) ≤ A (11 + 2 * p)
/-- an act, seen from behind: Y is what was before X -/
def act (kd w : Nat) (X Y : Nat → Nat) : Prop := kd ≤ 2 ∧ w < 8 ∧
  (kd = 0 → Y 48 = w ∧ X 48 = w + 1 ∧ Y 49 = X 49 ∧ X (6 * w + 5) = 0 ∧ ∀ k, k < w → ∀ j, j < 6 → Y (6 * k + j) = X (6 * k + j)) ∧
  (kd = 1 → w < X 48 ∧ Y 48 = X 48 ∧ Y 49 = X 49 ∧ Y (6 * w + 5) = 0 ∧ X (6 * w + 5) = 1 ∧ ∀ k, k < X 48 → ∀ j, j < 6 → ¬ (k = w ∧ j = 5) → Y (6 * k + j) = X (6 * k + j)) ∧
  (kd = 2 → w < 6 ∧ Y 48 = X 48 ∧ Y 49 = X 49 ^^^ 2 ^ w ∧ ∀ k, k < X 48 → ∀ j, j < 6 → Y (6 * k + j) = X (6 * k + j))
def sbI (n : Nat) : Int32 := if n < 128 then nI n else nI n - 256
/-- the tape, images, what can be undone -/
def Tape (i j : Nat → Nat → Int32) : Prop := ∃ (n : Nat) (tp : Nat → Nat), n ≤ 900 ∧ i 2 1 = nI n ∧ j 0 2 = nI n ∧ ∀ k, k < n → tp k < 256 ∧ i 3 k = sbI (tp k) ∧ j 1 k = nI (tp k)
def Imgs (A : Nat → Nat) (n : Nat) (i j : Nat → Nat → Int32) : Prop := n ≤ 3 ∧ i 0 9 = nI n ∧ j 0 23 = nI n ∧ ∃ M : Nat → Nat → Nat, ∀ q, q < n → vP A (M q) ∧ pI (39 + 6 * q) (M q) i ∧ ∀ k, k < 50 → j 9 (50 * q + k) = nI (M q k)
def Past (A B : Nat → Nat) (n : Nat) (i j : Nat → Nat → Int32) : Prop := n ≤ 16 ∧ i 57 2 = nI n ∧ j 0 22 = nI n ∧ ∃ U : Nat → Nat → Nat, U n = B ∧ ∀ q, q < n → vP A (U q) ∧ (∀ k, k < 50 → j 8 (50 * q + k) = nI (U q k)) ∧ ∃ kd w, i 58 q = nI kd ∧ i 59 q = nI w ∧ act kd w (U (q + 1)) (U q)
def Rest (A B : Nat → Nat) (i j : Nat → Nat → Int32) : Prop := i 0 11 = j 0 9 ∧ Tape i j ∧ ∃ ni nu, Imgs A ni i j ∧ Past A B nu i j ∧ (A 1 = 0 → ni = 0 ∧ nu = 0)
theorem Rest.f {A B : Nat → Nat} {i j i' j' : Nat → Nat → Int32} (h : Rest A B i j) (hi : ∀ a k, ((a = 0 ∧ k ≠ 10) ∨ a = 2 ∨ a = 3 ∨ (39 ≤ a ∧ a ≤ 59)) → i' a k = i a k) (hj : ∀ a k, ((a = 0 ∧ (k = 2 ∨ k = 9 ∨ k = 22 ∨ k = 23)) ∨ a = 1 ∨ a = 8 ∨ a = 9) → j' a k = j a k) : Rest A B i' j' := by
  obtain ⟨h1, ⟨n, tp, t1, t2, t3, t4⟩, ni, nu, ⟨m1, m2, m3, M, m4⟩, ⟨u1, u2, u3, U, u4, u5⟩, z⟩ := h
  refine ⟨by rw [hi 0 11 (by omega), hj 0 9 (by omega)]; exact h1, ⟨n, tp, t1, by rw [hi 2 1 (by omega)]; exact t2, by rw [hj 0 2 (by omega)]; exact t3, fun k hk => ⟨(t4 k hk).1, by rw [hi 3 k (by omega)]; exact (t4 k hk).2.1, by rw [hj 1 k (by omega)]; exact (t4 k hk).2.2⟩⟩, ni, nu, ⟨m1, by rw [hi 0 9 (by omega)]; exact m2, by rw [hj 0 23 (by omega)]; exact m3, M, fun q hq => ⟨(m4 q hq).1, (m4 q hq).2.1.f (fun a k g1 g2 => hi a k (by omega)), fun k hk => by rw [hj 9 _ (by omega)]; exact (m4 q hq).2.2 k hk⟩⟩, ⟨u1, by rw [hi 57 2 (by omega)]; exact u2, by rw [hj 0 22 (by omega)]; exact u3, U, u4, fun q hq => ⟨(u5 q hq).1, fun k hk => by rw [hj 8 _ (by omega)]; exact (u5 q hq).2.1 k hk, ?_⟩⟩, z⟩
  obtain ⟨kd, w, a1, a2, a3⟩ := (u5 q hq).2.2
  exact ⟨kd, w, by rw [hi 58 q (by omega)]; exact a1, by rw [hi 59 q (by omega)]; exact a2, a3⟩
/-- the fillings, if they are known (cells 60 to 66) -/
def filN (A : Nat → Nat) : Nat := (2 * A 4 + 1) ^ A 6
def digN (A : Nat → Nat) (f k : Nat) : Nat := f / (2 * A 4 + 1) ^ (A 6 - 1 - k) % (2 * A 4 + 1)
/-- the told lines of a matter and what a filling adds to them -/
def lfill (A T : Nat → Nat) (m f : Nat) : Nat → lT
  | 0 => ll T m (rd T) (T 48)
  | k + 1 => if digN A f k / 2 = m ∧ digN A f k < 2 * A 4 then ap (lfill A T m f k) (A (38 + k), digN A f k % 2, 8 + k) else lfill A T m f k
def tO (c : Nat) : Option Nat := if c = 1 then none else some (c - 3)
/-- the filling f fits: what is told of a matter is what comes -/
def fitq (A T : Nat → Nat) (f : Nat) : Bool := al (fun m => decide (A (41 + m) = 0) || decide (vd (outr A D0) (lfill A T m f (A 6)) = tO (A (41 + m)))) (A 4)
def kth (P : Nat → Bool) (n j : Nat) : Option Nat := fi (fun f => P f && decide (ct P f = j)) n
def fkn (A T : Nat → Nat) (i : Nat → Nat → Int32) : Prop := i 60 7 = nI (ct (fitq A T) (filN A)) ∧ i 60 8 = nI (A 6) ∧ i 60 9 = nI (2 * A 4 + 1) ∧
  (∀ f, f < filN A → fitq A T f = true → i 61 (ct (fitq A T) f) = nI f) ∧
  ∀ k, k < A 6 → ∀ s, s < 9 → i 62 (9 * k + s) = nI (ct (fun f => fitq A T f && decide (digN A f k = s)) (filN A))
def Fil (A T : Nat → Nat) (i : Nat → Nat → Int32) : Prop := i 60 6 = 0 ∨ (i 60 6 = 1 ∧ fkn A T i)
theorem Fil.f {A T : Nat → Nat} {i j : Nat → Nat → Int32} (h : Fil A T i) (e : ∀ a k, 60 ≤ a → a ≤ 62 → j a k = i a k) : Fil A T j := by
  unfold Fil fkn at *
  rw [e 60 6 (by omega) (by omega), e 60 7 (by omega) (by omega), e 60 8 (by omega) (by omega), e 60 9 (by omega) (by omega)]
  rcases h with h | ⟨h, h1, h2, h3, h4, h5⟩
  · exact Or.inl h
  · exact Or.inr ⟨h, h1, h2, h3, fun f a b => by rw [e 61 _ (by omega) (by omega)]; exact h4 f a b, fun k a s b => by rw [e 62 _ (by omega) (by omega)]; exact h5 k a s b⟩
def Rel (σc σm : zS) : Prop := ∃ (b : Bool) (A B T : Nat → Nat), vA A ∧ vP A B ∧ vP A T ∧ cU b A B T σc ∧ mU A B T D0 σm ∧ Rest A B σc.1 σm.1 ∧ Fil A T σc.1 ∧ σc.1 0 10 = σm.1 0 11 ∧ (σc.1 0 10 = 4 → σc.1 0 12 = σm.1 0 10)
section QQ
variable {ρ : Type}
/-- a question's answer and trouble -/
def QC (f : Option (ρ × zS)) (σ : zS) (v : ρ) (t : Int32) : Prop := zH f (fun r σ' => r = v ∧ fr Pc σ σ' ∧ σ'.1 0 10 = t)
def QM (f : Option (ρ × zS)) (σ : zS) (v : ρ) (t : Int32) : Prop := zH f (fun r σ' => r = v ∧ fr Pq σ σ' ∧ σ'.1 0 11 = t)
theorem Rel.q {σc σm : zS} (hR : Rel σc σm) {fc fm : Option (ρ × zS)} (h : ∀ b A B T, vA A → vP A B → vP A T → cU b A B T σc → mU A B T D0 σm → ∃ v t, t ≠ 4 ∧ QC fc σc v t ∧ QM fm σm v t) : ∃ (r : ρ) (σc1 σm1 : zS), fc = some (r, σc1) ∧ fm = some (r, σm1) ∧ Rel σc1 σm1 := by
  obtain ⟨b, A, B, T, h1, h2, h3, h4, h5, h6, h7, h8, h9⟩ := hR
  obtain ⟨v, t, ht, ⟨r, σ1, e1, rfl, f1, t1⟩, ⟨r2, σ2, e2, rfl, f2, t2⟩⟩ := h b A B T h1 h2 h3 h4 h5
  refine ⟨r2, σ1, σ2, e1, e2, b, A, B, T, h1, h2, h3, h4.f f1, h5.f f2, h6.f (fun a k z => f1.2 a k (by unfold Pc; omega)) (fun a k z => f2.2 a k (by unfold Pq; omega)), h7.f (fun a k z1 z2 => f1.2 a k (by unfold Pc; omega)), t1.trans t2.symm, fun z => absurd (t1.symm.trans z) ht⟩
end QQ
section CU
variable {b : Bool} {A B T : Nat → Nat} {σ : zS}
theorem v0 : WC.2 0 = (10, 0) := rfl
theorem v28 : WC.2 28 = (5, 0) := rfl
theorem v32 : WC.2 32 = (6, 0) := rfl
theorem cU.k (h : cU b A B T σ) : lK (Lc b) σ.2 := by rw [h.1]; exact lK_c b
theorem cU.n (h : cU b A B T σ) : pC 32 B σ := ⟨by rw [h.1]; exact pK_32 b, h.2.2.1⟩
theorem cU.t (h : cU b A B T σ) : pC (Lc b + 8) T σ := ⟨h.k.2.2.2.2.2.2, h.2.2.2.1⟩
theorem cU.o (h : cU b A B T σ) : oC 28 (outr A D0) (A 1) σ := ⟨by rw [h.1]; exact oK_28 b, h.2.2.2.2⟩
theorem cU.r8 (h : cU b A B T σ) : σ.2 0 8 = Lc b := by rw [h.1]; simp only [RCs]; rfl
theorem cU.r3 (h : cU b A B T σ) : σ.2 0 3 = 32 := by rw [h.1]; simp only [RCs]
theorem cU.r1 (h : cU b A B T σ) : σ.2 0 1 = 28 := by rw [h.1]; simp only [RCs]
theorem C_grant (x : Int32) (σ : zS) : f_X10_grant 0 x σ = some (x, zpi σ 0 10 0) := rfl
theorem C_refuse (x : Int32) (σ : zS) : f_X10_refuse 0 x σ = some (-1, zpi σ 0 10 x) := rfl
theorem QC_grant {f : Option (Int32 × zS)} {x : Int32} (h : f = some (x, zpi σ 0 10 0)) : QC f σ x 0 := ⟨_, _, h, rfl, (fr_r Pc σ).pi _ (by unfold Pc; omega), zpi_eq _ _ _ _⟩
theorem QC_refuse {f : Option (Int32 × zS)} {x : Int32} (h : f = some (-1, zpi σ 0 10 x)) : QC f σ (-1) x := ⟨_, _, h, rfl, (fr_r Pc σ).pi _ (by unfold Pc; omega), zpi_eq _ _ _ _⟩
theorem C_isX (f : Int32 → zS → Option (Int32 × zS)) {n : Nat} (hn : n < 2 ^ 31) (x : Int32) (h : ∀ x, f x σ = zbr (x < 0) (zck (zb 0) (some (0, σ))) (zbr (nI n ≤ x) (zck (zb 0) (some (0, σ))) (zck (zb 1) (some (1, σ))))) : f x σ = some (bI (inR x n), σ) := by
  rw [h]
  by_cases q : x < 0
  · rw [zbr_t q, inR_neg q]; rfl
  · rw [zbr_f q]
    obtain ⟨j, hj, rfl⟩ := nI_of q
    rw [inR_n hj]
    by_cases q : n ≤ j
    · rw [zbr_t (nI_le q hj), decide_eq_false (by omega)]; rfl
    · rw [zbr_f (nI_ge (by omega) hn), decide_eq_true (by omega)]; rfl
theorem C_isPlace (h : cU b A B T σ) (hA : vA A) (x : Int32) : f_X10_isPlace 0 x σ = some (bI (inR x (A 1)), σ) := by
  have := hA.1
  refine C_isX (f_X10_isPlace 0) (by omega) x (fun x => ?_)
  unfold f_X10_isPlace
  rw [zck_t v0, h.r8, zck_t h.k.1, h.2.1.1.2.1]
theorem C_isHand (h : cU b A B T σ) (hA : vA A) (x : Int32) : f_X10_isHand 0 x σ = some (bI (inR x (A 3)), σ) := by
  have := hA.1
  refine C_isX (f_X10_isHand 0) (by omega) x (fun x => ?_)
  unfold f_X10_isHand
  rw [zck_t v0, h.r8, zck_t h.k.1, h.2.1.1.2.2.2.1]
theorem C_isMatter (h : cU b A B T σ) (hA : vA A) (x : Int32) : f_X10_isMatter 0 x σ = some (bI (inR x (A 4)), σ) := by
  have := hA.1
  refine C_isX (f_X10_isMatter 0) (by omega) x (fun x => ?_)
  unfold f_X10_isMatter
  rw [zck_t v0, h.r8, zck_t h.k.1, h.2.1.1.2.2.2.2.1]
theorem C_isHidden (h : cU b A B T σ) (hA : vA A) (x : Int32) : f_X10_isHidden 0 x σ = some (bI (inR x (A 6)), σ) := by
  have := hA.1
  refine C_isX (f_X10_isHidden 0) (by omega) x (fun x => ?_)
  unfold f_X10_isHidden
  rw [zck_t v0, h.r8, zck_t h.k.1, h.2.1.1.2.2.2.2.2.1]
theorem C_isLine (h : cU b A B T σ) (hB : vB A B) (x : Int32) : f_X10_isLine 0 x σ = some (bI (inR x (B 48)), σ) := by
  have := hB.1
  refine C_isX (f_X10_isLine 0) (by omega) x (fun x => ?_)
  unfold f_X10_isLine
  rw [zck_t v0, h.r3, zck_t v32, h.2.2.1.1]
theorem C_noLetter (h : cU b A B T σ) (hA : vA A) : f_X10_noLetter 0 σ = some (bI (decide (A 1 = 0)), σ) := by
  have := hA.1
  unfold f_X10_noLetter
  rw [zck_t v0, h.r8, zck_t h.k.1, h.2.1.1.2.1]
  by_cases q : A 1 = 0
  · rw [zbr_t (by rw [q]; rfl), decide_eq_true q]; rfl
  · rw [zbr_f (nI_ne0 (by omega) (by omega)), decide_eq_false q]; rfl
theorem C_readN (h : cU b A B T σ) (hA : vA A) (hB : vB A B) : f_X6_read 32 σ = some (nI (mk (rdB B) 8), σ) := C_read h.n hB hA.1.2.1
theorem plE_b (hB : vB A B) (m : Nat) (S : Nat → Bool) {n : Nat} (hn : n ≤ B 48) : ∀ q, A 1 ≤ q → q < 6 → plE (ll B m S n) q = false := by
  intro q h1 h2
  cases e : plE (ll B m S n) q
  · rfl
  · obtain ⟨j, hj, e2⟩ := plE_iff.mp e
    have := (ll_vL hB m S hn j hj).1
    omega
theorem C_verdict (h : cU b A B T σ) (hA : vA A) (hB : vB A B) (S : Nat → Bool) {m : Nat} (hm : m < 2 ^ 31) : f_X10_verdict 0 (nI m) (nI (mk S 8)) σ = some (oI (vd (outr A D0) (ll B m S (B 48))), σ) := by
  unfold f_X10_verdict
  rw [zck_t v0, h.r3, zck_t v32, C_placesOf h.n hB hA.1.2.1 hA.1.2.2.2.2.1 S hm, zbd_s, h.r3, zck_t v32, C_dosOf h.n hB hA.1.2.1 hA.1.2.2.2.2.1 S hm, zbd_s, h.r1, zck_t v28, C_outcome h.o hA.1.2.1 (plE_b hB m S (Nat.le_refl _)), zbd_s]
  rw [vd_eq (outr_t D0 hA) (fun j hj => ⟨(ll_vL hB m S (Nat.le_refl _) j hj).1, (ll_vL hB m S (Nat.le_refl _) j hj).2.1⟩)]
theorem C_standing (h : cU b A B T σ) (hA : vA A) (hB : vB A B) (S : Nat → Bool) {m : Nat} (hm : m < 2 ^ 31) : f_X10_standing 0 (nI m) (nI (mk S 8)) σ = some (oI (sd (outr A D0) (ll B m S (B 48))), σ) := by
  have h6 := hA.1.2.1
  unfold f_X10_standing
  rw [zck_t v0, h.r3, zck_t v32, C_placesOf h.n hB hA.1.2.1 hA.1.2.2.2.2.1 S hm, zbd_s, h.r1, zck_t v28, C_unbeaten h.o hA.1.2.1 (plE_b hB m S (Nat.le_refl _)), zbd_s, zlt_e]
  rw [sd_eq (outr_t D0 hA) (fun j hj => (ll_vL hB m S (Nat.le_refl _) j hj).1)]
  cases e : ubp (outr A D0) (A 1) (plE (ll B m S (B 48))) with
  | none => rw [zbr_t (by rfl)]; rfl
  | some p =>
    have hp := (fi_iff.mp e).1
    rw [zbr_f (by exact nI_m1 (by omega)), h.r3, zck_t v32]
    show zbd (f_X6_latestAt 32 (nI p) (nI m) (nI (mk S 8)) σ) _ = _
    rw [C_latestAt h.n hB h6 hA.1.2.2.2.2.1 S (by omega) hm, zbd_s]
    show _ = some (oI ((laE _ p).map _), σ)
    rw [ll_last]
theorem C_roomAt (h : cU b A B T σ) (hA : vA A) (hB : vP A B) {p : Nat} (hp : p < A 1) : f_X10_roomAt 0 (nI p) σ = some (nI (room A B p), σ) := by
  have h6 := hA.1.2.1
  have hl := hB.1.2.2
  unfold f_X10_roomAt
  rw [zck_t v0, h.r8, zck_t h.k.1, h.k.2.1.2.1, h.k.2.2.1.2.1, zck_t (zok_p (by omega) (by decide)), h.r3, zck_t v32, C_inchesAt h.n hB.1.1 (fun k hk => by have := hl k hk; omega) (by omega), zbd_s, nI_clamp (by omega), (h.2.1.2.1 p hp).2]
  exact congrArg (fun x => some (x, σ)) (nI_sub (hB.2 p hp))
end CU
section MU
variable {A B T : Nat → Nat} {D : Nat → Bool} {σ : zS}
theorem QM_no {f : Option (Int32 × zS)} {x : Int32} {τ : zS} (hF : fr Pq σ τ) (h : zH f (fun r σ' => r = -1 ∧ σ' = zpi τ 0 11 x)) : QM f σ (-1) x := by
  obtain ⟨r, σ', e, h1, h2⟩ := h
  subst h2
  exact ⟨r, _, e, h1, hF.pi _ (by unfold Pq; omega), zpi_eq _ _ _ _⟩
/-- what good() leaves -/
def gd (σ : zS) : zS := zpi (zpi σ 0 0 0) 0 11 0
theorem M_good (σ : zS) : f_X11_good 0 σ = some ((), gd σ) := rfl
theorem M_no (x : Int32) (σ : zS) : f_X11_no 0 x σ = some (-1, zpi σ 0 11 x) := rfl
theorem gd_f (σ : zS) : fr Pq σ (gd σ) := ((fr_r Pq σ).pi _ (by unfold Pq; omega)).pi _ (by unfold Pq; omega)
theorem gd_11 (σ : zS) : (gd σ).1 0 11 = 0 := zpi_eq _ _ _ _
theorem mU.g (h : mU A B T D σ) : mU A B T D (gd σ) := h.f (gd_f σ)
/-- an answer behind good() -/
theorem QM_ans {f : Option (Int32 × zS)} {v : Int32} (h : zH f (fun r σ' => r = v ∧ fr Pl (gd σ) σ')) : QM f σ v 0 := by
  obtain ⟨r, σ', e, h1, h2⟩ := h
  exact ⟨r, σ', e, h1, (gd_f σ).tr (h2.mo Pl_Pq), (h2.2 0 11 (by unfold Pl; omega)).trans (gd_11 σ)⟩
theorem QM_refuse {f : Option (Int32 × zS)} {x : Int32} (h : f = some (-1, zpi (gd σ) 0 11 x)) : QM f σ (-1) x := ⟨_, _, h, rfl, (gd_f σ).pi _ (by unfold Pq; omega), zpi_eq _ _ _ _⟩
theorem M_isX (f : Int32 → zS → Option (Int32 × zS)) {n : Nat} (hn : n < 2 ^ 31) {l : Bool} (hl : l = false → n = 0) (x : Int32) (h : ∀ x, f x σ = zbr (bI l = 0) (zck (zb 0) (some (0, σ))) (zbd (f_X11_in x 0 (nI n - 1) σ) (fun r1 σ2 => zbr (r1 = 0) (zck (zb 0) (some (0, σ2))) (zck (zb 1) (some (1, σ2)))))) : f x σ = some (bI (inR x n), σ) := by
  rw [h]
  cases l with
  | false =>
    rw [zbr_t (by rfl), hl rfl]
    have : inR x 0 = false := decide_eq_false (by omega)
    rw [this]
    rfl
  | true =>
    rw [zbr_f (by decide), M_in0 x hn σ, zbd_s]
    cases inR x n <;> rfl
theorem vA.z (hA : vA A) (h : A 1 = 0) : A 0 = 0 ∧ A 2 = 0 ∧ A 3 = 0 ∧ A 4 = 0 ∧ A 6 = 0 ∧ A 7 = 0 ∧ A 8 = 0 := hA.2.2.2.2.2.2.2.2.2 h
theorem vB.z (hB : vB A B) (h : A 1 = 0) : B 48 = 0 := by
  rcases Nat.eq_zero_or_pos (B 48) with q | q
  · exact q
  · have := hB.2.2 0 q
    omega
theorem M_isPlace (h : mU A B T D σ) (hA : vA A) (x : Int32) : f_X11_isPlace 0 x σ = some (bI (inR x (A 1)), σ) := by
  have := hA.1
  refine M_isX (f_X11_isPlace 0) (by omega) (l := decide (0 < A 1)) (fun e => by simpa using e) x (fun x => ?_)
  unfold f_X11_isPlace
  rw [zck_t w0, h.2.2.2.2.2, mr15 h.1, w3, zck_t (c := zok 100 (100, 195) 1) (by decide), cl1, h.2.1 1 (by omega)]
theorem M_isMatter (h : mU A B T D σ) (hA : vA A) (x : Int32) : f_X11_isMatter 0 x σ = some (bI (inR x (A 4)), σ) := by
  have := hA.1
  refine M_isX (f_X11_isMatter 0) (by omega) (l := decide (0 < A 1)) (fun e => (hA.z (by simpa using e)).2.2.2.1) x (fun x => ?_)
  unfold f_X11_isMatter
  rw [zck_t w0, h.2.2.2.2.2, mr15 h.1, w3, zck_t (c := zok 100 (100, 195) 4) (by decide), cl4, h.2.1 4 (by omega)]
theorem M_isHidden (h : mU A B T D σ) (hA : vA A) (x : Int32) : f_X11_isHidden 0 x σ = some (bI (inR x (A 6)), σ) := by
  have := hA.1
  refine M_isX (f_X11_isHidden 0) (by omega) (l := decide (0 < A 1)) (fun e => (hA.z (by simpa using e)).2.2.2.2.1) x (fun x => ?_)
  unfold f_X11_isHidden
  rw [zck_t w0, h.2.2.2.2.2, mr15 h.1, w3, zck_t (c := zok 100 (100, 195) 6) (by decide), cl6, h.2.1 6 (by omega)]
theorem M_isLine (h : mU A B T D σ) (hB : vB A B) (x : Int32) : f_X11_isLine 0 x σ = some (bI (inR x (B 48)), σ) := by
  have := hB.1
  refine M_isX (f_X11_isLine 0) (by omega) (l := decide (0 < A 1)) (fun e => hB.z (by simpa using e)) x (fun x => ?_)
  unfold f_X11_isLine
  rw [zck_t w0, h.2.2.2.2.2, mr19 h.1, w7, zck_t (c := zok 100 (100, 50) 48) (by decide), cl48, h.2.2.1 48 (by omega)]
end MU
