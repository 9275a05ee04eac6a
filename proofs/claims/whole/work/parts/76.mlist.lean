/-! the reference: what may change, what it holds, its lists -/
def fr (P : Nat → Nat → Prop) (σ σ' : zS) : Prop := σ'.2 = σ.2 ∧ ∀ a k, ¬ P a k → σ'.1 a k = σ.1 a k
theorem fr_r (P : Nat → Nat → Prop) (σ : zS) : fr P σ σ := ⟨rfl, fun _ _ _ => rfl⟩
theorem fr.tr {P : Nat → Nat → Prop} {σ τ υ : zS} (h : fr P σ τ) (g : fr P τ υ) : fr P σ υ := ⟨g.1.trans h.1, fun a k n => (g.2 a k n).trans (h.2 a k n)⟩
theorem fr.mo {P Q : Nat → Nat → Prop} {σ τ : zS} (h : fr P σ τ) (g : ∀ a k, P a k → Q a k) : fr Q σ τ := ⟨h.1, fun a k n => h.2 a k (fun z => n (g a k z))⟩
theorem fr.pi {P : Nat → Nat → Prop} {σ τ : zS} (h : fr P σ τ) {a k : Nat} (v : Int32) (g : P a k) : fr P σ (zpi τ a k v) := ⟨h.1, fun b j n => by rw [zpi_ne τ v (fun e => n (by rw [e.1, e.2]; exact g))]; exact h.2 b j n⟩
def Pl (a k : Nat) : Prop := a = 10 ∨ a = 11 ∨ a = 12 ∨ (a = 0 ∧ k = 28)
def Pq (a k : Nat) : Prop := 10 ≤ a ∨ (a = 0 ∧ (k = 0 ∨ k = 11 ∨ k = 28 ∨ k = 31 ∨ k = 32 ∨ k = 35 ∨ k = 37 ∨ k = 38 ∨ k = 39))
theorem Pl_Pq (a k : Nat) (h : Pl a k) : Pq a k := by unfold Pl at h; unfold Pq; omega
/-- the reference's state: the letter A, the page B, the page T as told, D which rules are dropped -/
def mU (A B T : Nat → Nat) (D : Nat → Bool) (σ : zS) : Prop := σ.2 = RM ∧ (∀ k, k < 69 → σ.1 3 k = nI (A k)) ∧ (∀ k, k < 50 → σ.1 7 k = nI (B k)) ∧ (∀ k, k < 50 → σ.1 5 k = nI (T k)) ∧ σ.1 0 24 = nI (mk D 6) ∧ σ.1 0 14 = bI (decide (0 < A 1))
theorem mU.f {A B T : Nat → Nat} {D : Nat → Bool} {σ τ : zS} (h : mU A B T D σ) (g : fr Pq σ τ) : mU A B T D τ := by
  have e : ∀ a k, ¬ Pq a k → τ.1 a k = σ.1 a k := g.2
  refine ⟨g.1.trans h.1, fun k hk => (e 3 k (by unfold Pq; omega)).trans (h.2.1 k hk), fun k hk => (e 7 k (by unfold Pq; omega)).trans (h.2.2.1 k hk), fun k hk => (e 5 k (by unfold Pq; omega)).trans (h.2.2.2.1 k hk), (e 0 24 (by unfold Pq; omega)).trans h.2.2.2.2.1, (e 0 14 (by unfold Pq; omega)).trans h.2.2.2.2.2⟩
theorem mU.l {A B T : Nat → Nat} {D : Nat → Bool} {σ τ : zS} (h : mU A B T D σ) (g : fr Pl σ τ) : mU A B T D τ := h.f (g.mo Pl_Pq)
section MR
variable {σ : zS} (h : σ.2 = RM)
theorem mr1 (h : σ.2 = RM) : σ.2 0 1 = 1 := by rw [h]; simp only [RMs]
theorem mr12 (h : σ.2 = RM) : σ.2 0 12 = 2 := by rw [h]; simp only [RMs]
theorem mr15 (h : σ.2 = RM) : σ.2 0 15 = 3 := by rw [h]; simp only [RMs]
theorem mr16 (h : σ.2 = RM) : σ.2 0 16 = 4 := by rw [h]; simp only [RMs]
theorem mr17 (h : σ.2 = RM) : σ.2 0 17 = 5 := by rw [h]; simp only [RMs]
theorem mr18 (h : σ.2 = RM) : σ.2 0 18 = 6 := by rw [h]; simp only [RMs]
theorem mr19 (h : σ.2 = RM) : σ.2 0 19 = 7 := by rw [h]; simp only [RMs]
theorem mr20 (h : σ.2 = RM) : σ.2 0 20 = 8 := by rw [h]; simp only [RMs]
theorem mr21 (h : σ.2 = RM) : σ.2 0 21 = 9 := by rw [h]; simp only [RMs]
theorem mr25 (h : σ.2 = RM) : σ.2 0 25 = 10 := by rw [h]; simp only [RMs]
theorem mr26 (h : σ.2 = RM) : σ.2 0 26 = 11 := by rw [h]; simp only [RMs]
theorem mr27 (h : σ.2 = RM) : σ.2 0 27 = 12 := by rw [h]; simp only [RMs]
theorem mr29 (h : σ.2 = RM) : σ.2 0 29 = 13 := by rw [h]; simp only [RMs]
theorem mr30 (h : σ.2 = RM) : σ.2 0 30 = 14 := by rw [h]; simp only [RMs]
theorem mr33 (h : σ.2 = RM) : σ.2 0 33 = 15 := by rw [h]; simp only [RMs]
theorem mr34 (h : σ.2 = RM) : σ.2 0 34 = 16 := by rw [h]; simp only [RMs]
theorem mr36 (h : σ.2 = RM) : σ.2 0 36 = 17 := by rw [h]; simp only [RMs]
end MR
theorem w0 : WM.2 0 = (11, 0) := rfl
theorem w1 : WM.2 1 = (100, 900) := rfl
theorem w2 : WM.2 2 = (100, 8) := rfl
theorem w3 : WM.2 3 = (100, 195) := rfl
theorem w4 : WM.2 4 = (100, 195) := rfl
theorem w5 : WM.2 5 = (100, 50) := rfl
theorem w6 : WM.2 6 = (100, 50) := rfl
theorem w7 : WM.2 7 = (100, 50) := rfl
theorem w8 : WM.2 8 = (100, 800) := rfl
theorem w9 : WM.2 9 = (100, 150) := rfl
theorem w10 : WM.2 10 = (100, 12) := rfl
theorem w11 : WM.2 11 = (100, 12) := rfl
theorem w12 : WM.2 12 = (100, 12) := rfl
theorem w13 : WM.2 13 = (100, 5) := rfl
theorem w14 : WM.2 14 = (100, 5) := rfl
theorem w15 : WM.2 15 = (100, 6) := rfl
theorem w16 : WM.2 16 = (100, 6) := rfl
theorem w17 : WM.2 17 = (100, 27) := rfl
theorem ix0 (k : Nat) : (6 : Int32) * nI k + (0 : Int32) = nI (6 * k) := by show nI 6 * nI k + nI 0 = _; rw [nI_mul, nI_add]; rfl
theorem ix1 (k : Nat) : (6 : Int32) * nI k + (1 : Int32) = nI (6 * k + 1) := by show nI 6 * nI k + nI 1 = _; rw [nI_mul, nI_add]
theorem ix2 (k : Nat) : (6 : Int32) * nI k + (2 : Int32) = nI (6 * k + 2) := by show nI 6 * nI k + nI 2 = _; rw [nI_mul, nI_add]
theorem ix3 (k : Nat) : (6 : Int32) * nI k + (3 : Int32) = nI (6 * k + 3) := by show nI 6 * nI k + nI 3 = _; rw [nI_mul, nI_add]
theorem ix4 (k : Nat) : (6 : Int32) * nI k + (4 : Int32) = nI (6 * k + 4) := by show nI 6 * nI k + nI 4 = _; rw [nI_mul, nI_add]
theorem ix5 (k : Nat) : (6 : Int32) * nI k + (5 : Int32) = nI (6 * k + 5) := by show nI 6 * nI k + nI 5 = _; rw [nI_mul, nI_add]
theorem jx10 (k : Nat) : (10 : Int32) + (2 : Int32) * nI k = nI (10 + 2 * k) := by show nI 10 + nI 2 * nI k = _; rw [nI_mul, nI_add]
theorem jx11 (k : Nat) : nI (10 + 2 * k) + (1 : Int32) = nI (11 + 2 * k) := by rw [nI_1]; congr 1; omega
theorem jx22 (k : Nat) : (22 : Int32) + (2 : Int32) * nI k = nI (22 + 2 * k) := by show nI 22 + nI 2 * nI k = _; rw [nI_mul, nI_add]
theorem jx23 (k : Nat) : nI (22 + 2 * k) + (1 : Int32) = nI (23 + 2 * k) := by rw [nI_1]; congr 1; omega
theorem cl1 : (1 : Int32).toNatClampNeg = 1 := by decide
theorem cl2 : (2 : Int32).toNatClampNeg = 2 := by decide
theorem cl3 : (3 : Int32).toNatClampNeg = 3 := by decide
theorem cl4 : (4 : Int32).toNatClampNeg = 4 := by decide
theorem cl6 : (6 : Int32).toNatClampNeg = 6 := by decide
theorem cl8 : (8 : Int32).toNatClampNeg = 8 := by decide
theorem cl48 : (48 : Int32).toNatClampNeg = 48 := by decide
theorem cl49 : (49 : Int32).toNatClampNeg = 49 := by decide
theorem M_hasBit {a k : Nat} (ha : a < 2 ^ 31) (hk : k < 32) (σ : zS) : f_X11_hasBit (nI a) (nI k) σ = some (bI (a.testBit k), σ) := by
  unfold f_X11_hasBit
  rw [nI_get ha hk]
  cases a.testBit k <;> rfl
theorem M_hasBitm {f : Nat → Bool} {n k : Nat} (hn : n ≤ 30) (hk : k < n) (σ : zS) : f_X11_hasBit (nI (mk f n)) (nI k) σ = some (bI (f k), σ) := by
  rw [M_hasBit (mk_p31 hn f) (by omega), mk_tb, decide_eq_true hk, Bool.true_and]
theorem M_ones {f : Nat → Bool} {n : Nat} (hn : n ≤ 8) (σ : zS) : f_X11_ones (nI (mk f n)) σ = some (nI (ct f n), σ) := by
  unfold f_X11_ones
  rw [zlt_e, zlt_e]
  have e : ct f n = ct (fun k => decide (k < n) && f k) 8 := by
    have key : ∀ d, ct (fun k => decide (k < n) && f k) (n + d) = ct f n := by
      intro d
      induction d with
      | zero => exact ct_cong (fun k hk => by rw [decide_eq_true (show k < n from hk), Bool.true_and])
      | succ d ih => rw [← Nat.add_assoc, ct, ih, decide_eq_false (by omega)]; rfl
    have := key (8 - n)
    rw [show n + (8 - n) = 8 by omega] at this
    exact this.symm
  rw [e]
  refine zup (P := fun q k => f_X11_ones_4 q (nI (mk f n)) (nI (ct (fun k => decide (k < n) && f k) k)) (nI k) σ = _) 8 ?_ ?_ 0 (Nat.zero_le _) FU (by unfold FU; omega)
  · intro q
    rw [f_X11_ones_4, zbr_t (by decide)]
  · intro q k hk ih
    rw [f_X11_ones_4, zbr_f (show ¬ (8 : Int32) ≤ nI k from nI_ge (b := 8) hk (by decide)), m_getg (by omega) (by omega), zlt_e, zlt_e, nI_1, bI_nI, nI_add]
    exact ih
/-- a number in a range -/
def inR (x : Int32) (n : Nat) : Bool := decide (0 ≤ x.toInt ∧ x.toInt < n)
theorem inR_t {x : Int32} {n : Nat} (h : inR x n = true) : ∃ j, j < n ∧ x = nI j := by
  have h := of_decide_eq_true h
  have hx := x.toInt_lt
  refine ⟨x.toInt.toNat, by omega, Int32.toInt_inj.mp ?_⟩
  rw [nI_toInt (by omega)]
  omega
theorem inR_n {j n : Nat} (hj : j < 2 ^ 31) : inR (nI j) n = decide (j < n) := by
  unfold inR
  rw [nI_toInt hj]
  exact decide_eq_decide.mpr ⟨fun h => by omega, fun h => by omega⟩
theorem inR_neg {x : Int32} {n : Nat} (h : x < 0) : inR x n = false := by
  unfold inR
  have := Int32.lt_iff_toInt_lt.mp h
  have h0 : (0 : Int32).toInt = 0 := by decide
  exact decide_eq_false (by omega)
theorem M_in0 (x : Int32) {n : Nat} (hn : n < 2 ^ 31) (σ : zS) : f_X11_in x 0 (nI n - 1) σ = some (bI (inR x n), σ) := by
  unfold f_X11_in
  by_cases h : x < 0
  · rw [zbr_t h, inR_neg h]; rfl
  · rw [zbr_f h]
    obtain ⟨j, hj, rfl⟩ := nI_of h
    rw [inR_n hj]
    cases n with
    | zero => rw [zbr_t (Int32.lt_iff_toInt_lt.mpr (by rw [nI_toInt hj]; have : (nI 0 - 1).toInt = -1 := (by decide +kernel); omega)), decide_eq_false (by omega)]; rfl
    | succ n =>
      rw [nI_pred]
      by_cases q : n < j
      · rw [zbr_t (nI_lt q hj), decide_eq_false (by omega)]; rfl
      · rw [zbr_f (fun z => q ((nI_ltI (by omega) hj).mp z)), decide_eq_true (by omega)]; rfl
theorem M_inc (x : Int32) {n : Nat} (hn : n + 1 < 2 ^ 31) (σ : zS) : f_X11_in x 0 (nI n) σ = some (bI (inR x (n + 1)), σ) := by
  have := M_in0 x hn σ
  rw [nI_pred] at this
  exact this
section ML
variable {A B T : Nat → Nat} {D : Nat → Bool} {σ : zS} {r : Nat}
def rowM (r : Nat) (B : Nat → Nat) (σ : zS) : Prop := WM.2 r = (100, 50) ∧ ∀ k, k < 50 → σ.1 r k = nI (B k)
theorem mU.r7 (h : mU A B T D σ) : rowM 7 B σ := ⟨w7, h.2.2.1⟩
theorem mU.r5 (h : mU A B T D σ) : rowM 5 T σ := ⟨w5, h.2.2.2.1⟩
theorem M_isRead (h : rowM r B σ) (hB : vB A B) (hA : A 1 ≤ 6) {k : Nat} (hk : k < B 48) : f_X11_isRead r (nI k) σ = some (bI (rd B k), σ) := by
  obtain ⟨hw, h⟩ := h
  obtain ⟨h8, hf, hl⟩ := hB
  have hf2 : B 49 < 2 ^ 31 := Nat.lt_of_lt_of_le hf (Nat.pow_le_pow_right (by decide) (by omega))
  have hl1 := hl k hk
  unfold f_X11_isRead rd
  rw [ix5, ix1, hw, zck_t (zok_p (by omega) (by decide)), nI_clamp (by omega), h _ (by omega)]
  by_cases e : B (6 * k + 5) = 0
  · rw [zbr_t (by rw [e]; rfl), zck_t (by decide), zck_t (zok_p (by omega) (by decide)), nI_clamp (by omega), cl49, h 49 (by omega), h _ (by omega), M_hasBit hf2 (by omega), zbd_s, decide_eq_true e]
    cases (B 49).testBit (B (6 * k + 1)) <;> rfl
  · rw [zbr_f (nI_ne0 (by omega) (by omega)), decide_eq_false e]
    rfl
theorem M_doesOutrank (h : mU A B T D σ) (hA : vA A) {p q : Nat} (hp : p < A 1) (hq : q < A 1) : f_X11_doesOutrank 0 (nI p) (nI q) σ = some (bI (outr A D p q), σ) := by
  obtain ⟨hR, h3, h7, h5, hD, hl⟩ := h
  obtain ⟨hb, hpl, -, hov, -⟩ := id hA
  unfold f_X11_doesOutrank
  rw [zck_t w0, zlt_e]
  refine zup (P := fun f k => ov A D k p q = false → ov A D k q p = false → f_X11_doesOutrank_2 0 f (nI p) (nI q) (nI k) σ = _) (A 2) ?_ ?_ 0 (Nat.zero_le _) FU (by unfold FU; omega) rfl rfl
  · intro f o1 o2
    have p1 := hpl p hp
    have p2 := hpl q hq
    rw [f_X11_doesOutrank_2, mr15 hR, w3, zck_t (by decide), cl2, h3 2 (by omega), zbr_t (Int32.le_refl _), jx10, jx10, zck_t (zok_p (by omega) (by decide)), zck_t (zok_p (by omega) (by decide)), nI_clamp (by omega), nI_clamp (by omega), h3 _ (by omega), h3 _ (by omega)]
    unfold outr outrK
    rw [o1, o2]
    by_cases q1 : A (10 + 2 * p) ≤ A (10 + 2 * q)
    · rw [zbr_t (nI_le q1 (by omega)), decide_eq_false (by omega)]; rfl
    · rw [zbr_f (nI_ge (by omega) (by omega)), decide_eq_true (by omega)]; rfl
  · intro f k hk ih o1 o2
    have ho := hov k hk
    have nxt : ¬ (D k = false ∧ A (22 + 2 * k) = p ∧ A (23 + 2 * k) = q) → ¬ (D k = false ∧ A (22 + 2 * k) = q ∧ A (23 + 2 * k) = p) → f_X11_doesOutrank_94 0 (f_X11_doesOutrank_2 0 f) (nI p) (nI q) (nI k) σ = some (bI (outr A D p q), σ) := by
      intro n1 n2
      unfold f_X11_doesOutrank_94
      rw [zlt_e, nI_1]
      refine ih ?_ ?_
      · show (ov A D k p q || _) = false
        rw [o1]
        simpa [and_assoc] using n1
      · show (ov A D k q p || _) = false
        rw [o2]
        simpa [and_assoc] using n2
    rw [f_X11_doesOutrank_2, mr15 hR, w3, zck_t (by decide), cl2, h3 2 (by omega), zbr_f (nI_ge hk (by omega)), hD, M_hasBitm (by omega) (by omega), zbd_s]
    cases hDk : D k
    · rw [zbr_t (by rfl), mr15 hR, w3, jx22, jx23, zck_t (zok_p (by omega) (by decide)), nI_clamp (by omega), h3 _ (by omega), zck_t (zok_p (by omega) (by decide)), nI_clamp (by omega), h3 _ (by omega)]
      have n2 : ¬ (A (22 + 2 * k) = p ∧ A (23 + 2 * k) = q) → f_X11_doesOutrank_60 0 (f_X11_doesOutrank_2 0 f) (nI p) (nI q) (nI k) σ = some (bI (outr A D p q), σ) := by
        intro n1
        unfold f_X11_doesOutrank_60
        rw [mr15 hR, w3, jx22, jx23, zck_t (zok_p (by omega) (by decide)), nI_clamp (by omega), h3 _ (by omega), zck_t (zok_p (by omega) (by decide)), nI_clamp (by omega), h3 _ (by omega)]
        by_cases e1 : A (22 + 2 * k) = q
        · rw [zbr_t (by rw [e1])]
          by_cases e2 : A (23 + 2 * k) = p
          · have z1 : ov A D (A 2) q p = true := ov_iff.mpr ⟨k, hk, hDk, e1, e2⟩
            have z2 := ov_not hA (Nat.le_refl _) z1
            rw [zbr_t (by rw [e2])]
            unfold outr outrK
            rw [z1, z2]
            rfl
          · rw [zbr_f (fun e => e2 ((nI_eq (by omega) (by omega)).mp e))]
            exact nxt (fun z => n1 z.2) (fun z => e2 z.2.2)
        · rw [zbr_f (fun e => e1 ((nI_eq (by omega) (by omega)).mp e))]
          exact nxt (fun z => n1 z.2) (fun z => e1 z.2.1)
      by_cases e1 : A (22 + 2 * k) = p
      · rw [zbr_t (by rw [e1])]
        by_cases e2 : A (23 + 2 * k) = q
        · have z1 : ov A D (A 2) p q = true := ov_iff.mpr ⟨k, hk, hDk, e1, e2⟩
          rw [zbr_t (by rw [e2])]
          unfold outr outrK
          rw [z1]
          rfl
        · rw [zbr_f (fun e => e2 ((nI_eq (by omega) (by omega)).mp e))]
          exact n2 (fun z => e2 z.2)
      · rw [zbr_f (fun e => e1 ((nI_eq (by omega) (by omega)).mp e))]
        exact n2 (fun z => e1 z.1)
    · rw [zbr_f (by decide)]
      exact nxt (fun z => by rw [hDk] at z; cases z.1) (fun z => by rw [hDk] at z; cases z.1)
/-- the list as the reference keeps it -/
def mL (L : lT) (σ : zS) : Prop := L.1 ≤ 12 ∧ σ.1 0 28 = nI L.1 ∧ ∀ j, j < L.1 → σ.1 10 j = nI (L.2 j).1 ∧ σ.1 11 j = nI (L.2 j).2.1 ∧ σ.1 12 j = nI (L.2 j).2.2
def vL (np : Nat) (L : lT) : Prop := ∀ j, j < L.1 → (L.2 j).1 < np ∧ (L.2 j).2.1 ≤ 1 ∧ (L.2 j).2.2 < 16
theorem vL_ap {np : Nat} {L : lT} {t : Nat × Nat × Nat} (h : vL np L) (ht : t.1 < np ∧ t.2.1 ≤ 1 ∧ t.2.2 < 16) : vL np (ap L t) := by
  intro j hj
  show ((if j = L.1 then t else L.2 j)).1 < np ∧ ((if j = L.1 then t else L.2 j)).2.1 ≤ 1 ∧ ((if j = L.1 then t else L.2 j)).2.2 < 16
  by_cases e : j = L.1
  · rw [if_pos e]; exact ht
  · rw [if_neg e]; exact h j (by have : j < L.1 + 1 := hj; omega)
theorem M_doesBeat (h : mU A B T D σ) (hA : vA A) {L : lT} (hL : mL L σ) (hv : vL (A 1) L) {a b : Nat} (ha : a < L.1) (hb : b < L.1) : f_X11_doesBeat 0 (nI a) (nI b) σ = some (bI (bts (outr A D) L a b), σ) := by
  obtain ⟨h12, h28, hl⟩ := hL
  have h6 : A 1 ≤ 6 := hA.1.2.1
  have va := hv a ha
  have vb := hv b hb
  unfold f_X11_doesBeat bts
  rw [zck_t w0, mr25 h.1, w10, zck_t (zok_p (by omega) (by decide)), zck_t (zok_p (by omega) (by decide)), nI_clamp (by omega), nI_clamp (by omega), (hl a ha).1, (hl b hb).1]
  by_cases e : (L.2 a).1 = (L.2 b).1
  · rw [zbr_t (by rw [e]), if_pos e]
    by_cases q : a ≤ b
    · rw [zbr_t (nI_le q (by omega)), decide_eq_false (by omega)]; rfl
    · rw [zbr_f (nI_ge (by omega) (by omega)), decide_eq_true (by omega)]; rfl
  · rw [zbr_f (fun z => e ((nI_eq (by omega) (by omega)).mp z)), if_neg e, zck_t (zok_p (by omega) (by decide)), zck_t (zok_p (by omega) (by decide)), M_doesOutrank h hA va.1 vb.1, zbd_s, zck_t (bI_z _)]
theorem M_unbeaten (h : mU A B T D σ) (hA : vA A) {L : lT} (hL : mL L σ) (hv : vL (A 1) L) : f_X11_unbeaten 0 σ = some (oI (ub (outr A D) L), σ) := by
  have hL0 := hL
  obtain ⟨h12, h28, hl⟩ := hL
  have inner : ∀ (H2 : Int32 → zS → Option (Int32 × zS)) (a : Nat), a < L.1 → f_X11_unbeaten_14 0 H2 FU (nI a) 1 0 σ = if ubq (outr A D) L a then some (nI a, σ) else H2 (nI (a + 1)) σ := by
    intro H2 a ha
    suffices key : ∀ k, k ≤ L.1 → ∀ f, L.1 - k < f → f_X11_unbeaten_14 0 H2 f (nI a) (bI (al (fun b => decide (a = b) || !bts (outr A D) L b a) k)) (nI k) σ = if ubq (outr A D) L a then some (nI a, σ) else H2 (nI (a + 1)) σ by
      exact key 0 (Nat.zero_le _) FU (by unfold FU; omega)
    refine zup (P := fun f k => f_X11_unbeaten_14 0 H2 f (nI a) (bI (al (fun b => decide (a = b) || !bts (outr A D) L b a) k)) (nI k) σ = _) L.1 ?_ ?_
    · intro f
      rw [f_X11_unbeaten_14, h28, zbr_t (Int32.le_refl _)]
      show zbr (bI (ubq (outr A D) L a) = 0) _ _ = _
      cases ubq (outr A D) L a
      · rw [zbr_t (by rfl), zlt_e, nI_1]; rfl
      · rw [zbr_f (by decide)]; rfl
    · intro f k hk ih
      rw [f_X11_unbeaten_14, h28, zbr_f (nI_ge hk (by omega))]
      have ih : f_X11_unbeaten_14 0 H2 f (nI a) (bI (al (fun b => decide (a = b) || !bts (outr A D) L b a) k && (decide (a = k) || !bts (outr A D) L k a))) (nI (k + 1)) σ = _ := ih
      cases e : al (fun b => decide (a = b) || !bts (outr A D) L b a) k
      · rw [e, Bool.false_and] at ih
        rw [zbr_t (by rfl)]
        unfold f_X11_unbeaten_44 f_X11_unbeaten_45
        rw [zlt_e, zlt_e, nI_1]
        exact ih
      · rw [e, Bool.true_and] at ih
        rw [zbr_f (by decide)]
        by_cases q : a = k
        · rw [decide_eq_true q, Bool.true_or] at ih
          rw [zbr_t (by rw [q])]
          unfold f_X11_unbeaten_40 f_X11_unbeaten_45
          rw [zlt_e, zlt_e, nI_1]
          exact ih
        · rw [decide_eq_false q, Bool.false_or] at ih
          rw [zbr_f (fun z => q ((nI_eq (by omega) (by omega)).mp z)), M_doesBeat h hA hL0 hv hk ha, zbd_s]
          cases e2 : bts (outr A D) L k a
          · rw [e2] at ih
            rw [zbr_t (by rfl)]
            unfold f_X11_unbeaten_40 f_X11_unbeaten_45
            rw [zlt_e, zlt_e, nI_1]
            exact ih
          · rw [e2] at ih
            rw [zbr_f (by decide)]
            unfold f_X11_unbeaten_44 f_X11_unbeaten_45
            rw [zlt_e, zlt_e, nI_1]
            exact ih
  unfold f_X11_unbeaten
  rw [zck_t w0, zlt_e]
  refine zup (P := fun f k => (∀ j, j < k → ubq (outr A D) L j = false) → f_X11_unbeaten_2 0 f (nI k) σ = _) L.1 ?_ ?_ 0 (Nat.zero_le _) FU (by unfold FU; omega) (fun j hj => absurd hj (Nat.not_lt_zero j))
  · intro f hall
    rw [f_X11_unbeaten_2, h28, zbr_t (Int32.le_refl _), show ub (outr A D) L = none from fi_none.mpr hall]
    rfl
  · intro f k hk ih hall
    rw [f_X11_unbeaten_2, h28, zbr_f (nI_ge hk (by omega)), zlt_e, zlt_e, inner _ k hk]
    cases e : ubq (outr A D) L k
    · exact ih (fun j hj => by
        by_cases q : j = k
        · subst q; exact e
        · exact hall j (by omega))
    · rw [show ub (outr A D) L = some k from fi_iff.mpr ⟨hk, e, hall⟩]
      rfl
theorem M_listDone (h : mU A B T D σ) (hA : vA A) {L : lT} (hL : mL L σ) (hv : vL (A 1) L) : f_X11_listDone 0 σ = some (oI (vd (outr A D) L), σ) := by
  have hL0 := hL
  obtain ⟨h12, h28, hl⟩ := hL
  unfold f_X11_listDone vd
  rw [zck_t w0, M_unbeaten h hA hL0 hv, zbd_s, zlt_e]
  cases e : ub (outr A D) L with
  | none => rfl
  | some a =>
    have ha := (fi_iff.mp e).1
    show zbr (0 ≤ nI a) _ _ = some (nI (L.2 a).2.1, σ)
    rw [zbr_t (nI_pos' (by omega)), mr26 h.1, w11]
    show zck (zok 100 (100, 12) (nI a)) (some (σ.1 11 (nI a).toNatClampNeg, σ)) = _
    rw [zck_t (zok_p (by omega) (by decide)), nI_clamp (by omega), (hl a ha).2.1]
theorem M_add (h : σ.2 = RM) {L : lT} (hL : mL L σ) (h12 : L.1 < 12) (p s t : Nat) : zH (f_X11_add 0 (nI p) (nI s) (nI t) σ) (fun _ σ' => fr Pl σ σ' ∧ mL (ap L (p, s, t)) σ') := by
  obtain ⟨-, h28, hl⟩ := hL
  unfold f_X11_add
  refine zH_ck w0 ?_
  rw [mr25 h, w10, h28, nI_clamp (by omega)]
  refine zH_ck (zok_p (by omega) (by decide)) (zH_lt ?_)
  rw [zpi_2, mr26 h, w11, zpi_ne _ _ (by omega), h28, nI_clamp (by omega)]
  refine zH_ck (zok_p (by omega) (by decide)) (zH_lt ?_)
  rw [zpi_2, zpi_2, mr27 h, w12, zpi_ne _ _ (by omega), zpi_ne _ _ (by omega), h28, nI_clamp (by omega)]
  refine zH_ck (zok_p (by omega) (by decide)) (zH_lt (zH_lt (zH_ok ?_)))
  rw [zpi_ne _ _ (by omega), zpi_ne _ _ (by omega), zpi_ne _ _ (by omega), h28, nI_1]
  refine ⟨((((fr_r Pl σ).pi _ (by unfold Pl; omega)).pi _ (by unfold Pl; omega)).pi _ (by unfold Pl; omega)).pi _ (by unfold Pl; omega), h12, zpi_eq _ _ _ _, ?_⟩
  intro j hj
  have hj : j < L.1 + 1 := hj
  show _ = nI ((if j = L.1 then (p, s, t) else L.2 j)).1 ∧ _ = nI ((if j = L.1 then (p, s, t) else L.2 j)).2.1 ∧ _ = nI ((if j = L.1 then (p, s, t) else L.2 j)).2.2
  by_cases e : j = L.1
  · subst e
    simp [zpi_1]
  · rw [if_neg e]
    have := hl j (by omega)
    simp [zpi_1, e, this]
theorem mL.z (σ : zS) : mL l0 (zpi σ 0 28 0) := ⟨by decide, zpi_eq _ _ _ _, fun j hj => absurd hj (Nat.not_lt_zero j)⟩
theorem M_layList (hR : σ.2 = RM) (h : rowM r B σ) (hr : r < 10 ∧ r ≠ 0) (hB : vB A B) (hA : A 1 ≤ 6) (hA4 : A 4 ≤ 4) (W : Nat → Bool) {m n : Nat} (hm : m < 2 ^ 31) (hn : n ≤ B 48) : zH (f_X11_layList 0 r (nI m) (nI n) (nI (mk W 8)) σ) (fun _ σ' => fr Pl σ σ' ∧ mL (ll B m (fun k => rd B k && !W k) n) σ') := by
  obtain ⟨h8, hf, hl⟩ := id hB
  unfold f_X11_layList
  refine zH_ck w0 (zH_lt (zH_lt ?_))
  suffices key : ∀ k, k ≤ n → ∀ f, n - k < f → ∀ τ, fr Pl σ τ → mL (ll B m (fun k => rd B k && !W k) k) τ → zH (f_X11_layList_8 0 f r (nI m) (nI n) (nI (mk W 8)) (nI k) τ) (fun _ σ' => fr Pl σ σ' ∧ mL (ll B m (fun k => rd B k && !W k) n) σ') from
    key 0 (Nat.zero_le _) FU (by unfold FU; omega) _ ((fr_r Pl σ).pi _ (by unfold Pl; omega)) (mL.z σ)
  refine zup (P := fun f k => ∀ τ, fr Pl σ τ → mL (ll B m (fun k => rd B k && !W k) k) τ → zH (f_X11_layList_8 0 f r (nI m) (nI n) (nI (mk W 8)) (nI k) τ) _) n ?_ ?_
  · intro f τ hF hL
    rw [f_X11_layList_8]
    exact zH_t (Int32.le_refl _) (zH_ok ⟨hF, hL⟩)
  · intro f k hk ih τ hF hL
    have hl1 := hl k (by omega)
    have hrow : rowM r B τ := ⟨h.1, fun k hk => (hF.2 r k (by unfold Pl; omega)).trans (h.2 k hk)⟩
    have hRt : τ.2 = RM := hF.1.trans hR
    have nxt : ∀ υ, fr Pl σ υ → mL (ll B m (fun k => rd B k && !W k) (k + 1)) υ → zH (f_X11_layList_70 0 (f_X11_layList_8 0 f) r (nI m) (nI n) (nI (mk W 8)) (nI k) υ) (fun _ σ' => fr Pl σ σ' ∧ mL (ll B m (fun k => rd B k && !W k) n) σ') := by
      intro υ a b
      unfold f_X11_layList_70
      refine zH_lt ?_
      rw [nI_1]
      exact ih υ a b
    rw [f_X11_layList_8]
    refine zH_f (nI_ge hk (by omega)) ?_
    rw [ix2, ix1, ix3, h.1, nI_clamp (by omega), nI_clamp (by omega), nI_clamp (by omega)]
    refine zH_ck (zok_p (by omega) (by decide)) ?_
    rw [hrow.2 _ (by omega)]
    by_cases e : B (6 * k + 2) = m
    · refine zH_t (by rw [e]) ?_
      refine zH_eq (M_isRead hrow hB hA (by omega)) ?_
      cases er : rd B k
      · refine zH_t rfl (nxt τ hF ?_)
        rw [ll_f (by simp [er])]
        exact hL
      · refine zH_f (by decide) (zH_eq (M_hasBitm (by omega) (by omega) τ) ?_)
        cases ew : W k
        · refine zH_t rfl (zH_ck (zok_p (by omega) (by decide)) (zH_ck (zok_p (by omega) (by decide)) ?_))
          rw [hrow.2 _ (by omega), hrow.2 _ (by omega)]
          refine zH_call (M_add hRt hL (by have := ll_le B m (fun k => rd B k && !W k) k; omega) _ _ _) (fun _ υ hu => nxt υ (hF.tr hu.1) ?_)
          rw [ll_t e (by simp [er, ew])]
          exact hu.2
        · refine zH_f (by decide) (nxt τ hF ?_)
          rw [ll_f (by simp [ew])]
          exact hL
    · refine zH_f (fun z => e ((nI_eq (by omega) hm).mp z)) (nxt τ hF ?_)
      rw [ll_f (fun z => e z.1)]
      exact hL
theorem ll_vL (hB : vB A B) (m : Nat) (S : Nat → Bool) {n : Nat} (hn : n ≤ B 48) : vL (A 1) (ll B m S n) := by
  intro j hj
  obtain ⟨k, h1, h2, h3, h4⟩ := ll_mem B m S n j hj
  have := hB.2.2 k (by omega)
  have h8 := hB.1
  rw [h4]
  exact ⟨this.2.1, this.2.2.2.1, by show k < 16; omega⟩
theorem M_doneOf (h : mU A B T D σ) (hA : vA A) {C : Nat → Nat} (hr : (r = 7 ∧ C = B) ∨ (r = 5 ∧ C = T)) (hC : vB A C) (W : Nat → Bool) {m n : Nat} (hm : m < 2 ^ 31) (hn : n ≤ C 48) : zH (f_X11_doneOf 0 r (nI m) (nI n) (nI (mk W 8)) σ) (fun x σ' => x = oI (vd (outr A D) (ll C m (fun k => rd C k && !W k) n)) ∧ fr Pl σ σ') := by
  have hrow : rowM r C σ := by
    rcases hr with ⟨rfl, rfl⟩ | ⟨rfl, rfl⟩
    · exact h.r7
    · exact h.r5
  have hr2 : r < 10 ∧ r ≠ 0 := by rcases hr with ⟨rfl, rfl⟩ | ⟨rfl, rfl⟩ <;> decide
  unfold f_X11_doneOf
  refine zH_ck w0 (zH_call (M_layList h.1 hrow hr2 hC hA.1.2.1 hA.1.2.2.2.2.1 W hm hn) (fun _ τ ht => ?_))
  refine zH_eq (M_listDone (h.l ht.1) hA ht.2 (ll_vL hC m _ hn)) (zH_ok ⟨rfl, ht.1⟩)
theorem M_doneNow (h : mU A B T D σ) (hA : vA A) (hB : vB A B) {m : Nat} (hm : m < 2 ^ 31) : zH (f_X11_doneNow 0 (nI m) σ) (fun x σ' => x = oI (vd (outr A D) (ll B m (rd B) (B 48))) ∧ fr Pl σ σ') := by
  unfold f_X11_doneNow
  refine zH_ck w0 ?_
  rw [mr19 h.1, w7, cl48, h.2.2.1 48 (by omega)]
  refine zH_ck (by decide) ?_
  have := M_doneOf h hA (Or.inl ⟨rfl, rfl⟩) hB (fun _ => false) (m := m) hm (Nat.le_refl _)
  rw [mk_e] at this
  refine zH_call this (fun x τ ht => zH_ok ⟨?_, ht.2⟩)
  rw [ht.1, ll_cong (S' := rd B) (fun k _ _ => by simp)]
theorem M_standsOf (h : mU A B T D σ) (hA : vA A) (hB : vB A B) (W : Nat → Bool) {m : Nat} (hm : m < 2 ^ 31) : zH (f_X11_standsOf 0 (nI m) (nI (mk W 8)) σ) (fun x σ' => x = oI (sd (outr A D) (ll B m (fun k => rd B k && !W k) (B 48))) ∧ fr Pl σ σ') := by
  unfold f_X11_standsOf
  refine zH_ck w0 ?_
  rw [mr19 h.1, w7, cl48, h.2.2.1 48 (by omega)]
  refine zH_ck (by decide) (zH_call (M_layList h.1 h.r7 (by decide) hB hA.1.2.1 hA.1.2.2.2.2.1 W hm (Nat.le_refl _)) (fun _ τ ht => ?_))
  have hu := h.l ht.1
  refine zH_eq (M_unbeaten hu hA ht.2 (ll_vL hB m _ (Nat.le_refl _))) (zH_lt ?_)
  obtain ⟨⟨h12, h28, hl⟩, hF⟩ := And.intro ht.2 ht.1
  unfold sd
  cases e : ub (outr A D) (ll B m (fun k => rd B k && !W k) (B 48)) with
  | none => exact zH_f (by decide) (zH_ok ⟨rfl, hF⟩)
  | some a =>
    have ha := (fi_iff.mp e).1
    refine zH_t (nI_pos' (by omega)) ?_
    rw [mr27 hu.1, w12]
    refine zH_ck (zok_p (by omega) (by decide)) (zH_ok ⟨?_, hF⟩)
    show τ.1 12 (nI a).toNatClampNeg = _
    rw [nI_clamp (by omega), (hl a ha).2.2]
    rfl
end ML
