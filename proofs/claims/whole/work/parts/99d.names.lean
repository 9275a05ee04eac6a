/-! names that were told -/
def Ld (b : Bool) : Nat := if b then 69 else 9
theorem Ld_v (b : Bool) : Ld b = 9 ∨ Ld b = 69 := by cases b; exact Or.inl rfl; exact Or.inr rfl
abbrev nT : Type := Nat × (Nat → Nat × Nat × Nat × Nat)
def ixN (t : Nat × Nat × Nat × Nat) : Nat := if t.2.2.1 = 2 then t.2.2.2 else if t.2.2.1 = 4 then 6 + t.2.2.2 else 10 + t.2.2.2
def NC (N : nT) (σ : zS) : Prop := σ.1 4 4 = nI N.1 ∧ ∀ i, i < N.1 → σ.1 5 i = nI (N.2 i).1 ∧ σ.1 6 i = nI (N.2 i).2.1 ∧ σ.1 7 i = nI (N.2 i).2.2.1 ∧ σ.1 8 i = nI (N.2 i).2.2.2
def NM (tp : Nat → Nat) (N : nT) (σ : zS) : Prop := (∀ i, i < N.1 → σ.1 4 (69 + ixN (N.2 i)) = nI (N.2 i).2.1 ∧ ∀ k, k < (N.2 i).2.1 → σ.1 4 (83 + 8 * ixN (N.2 i) + k) = nI (tp ((N.2 i).1 + k))) ∧ ∀ m, m < 14 → (∀ i, i < N.1 → ixN (N.2 i) ≠ m) → σ.1 4 (69 + m) = 0
def sT (tp : Nat → Nat) (a e : Nat) (x : Nat × Nat × Nat × Nat) : Bool := decide (x.2.1 = e - a) && al (fun k => decide (tp (a + k) = tp (x.1 + k))) (e - a)
/-- names as they must be: of some length, of small letters, told once -/
def VN (tp : Nat → Nat) (n : Nat) (F : Nat → Nat) (N : nT) : Prop := N.1 = F 1 + F 3 + F 4 ∧
  (∀ i, i < N.1 → (1 ≤ (N.2 i).2.1 ∧ (N.2 i).2.1 ≤ 8 ∧ (N.2 i).1 + (N.2 i).2.1 ≤ n ∧ ∀ k, k < (N.2 i).2.1 → tp ((N.2 i).1 + k) < 128) ∧ (((N.2 i).2.2.1 = 2 ∧ (N.2 i).2.2.2 < F 1) ∨ ((N.2 i).2.2.1 = 4 ∧ (N.2 i).2.2.2 < F 3) ∨ ((N.2 i).2.2.1 = 5 ∧ (N.2 i).2.2.2 < F 4))) ∧
  ∀ i j, i < N.1 → j < N.1 → i ≠ j → sT tp (N.2 i).1 ((N.2 i).1 + (N.2 i).2.1) (N.2 j) = false
theorem sT_iff {tp : Nat → Nat} {a e : Nat} {x : Nat × Nat × Nat × Nat} : sT tp a e x = true ↔ x.2.1 = e - a ∧ ∀ k, k < e - a → tp (a + k) = tp (x.1 + k) := by
  unfold sT
  rw [Bool.and_eq_true, decide_eq_true_eq, al_iff]
  exact ⟨fun h => ⟨h.1, fun k hk => of_decide_eq_true (h.2 k hk)⟩, fun h => ⟨h.1, fun k hk => decide_eq_true (h.2 k hk)⟩⟩
theorem ixN_b {F : Nat → Nat} (hb : F 1 ≤ 6 ∧ F 3 ≤ 4 ∧ F 4 ≤ 4) {x : Nat × Nat × Nat × Nat} (h : (x.2.2.1 = 2 ∧ x.2.2.2 < F 1) ∨ (x.2.2.1 = 4 ∧ x.2.2.2 < F 3) ∨ (x.2.2.1 = 5 ∧ x.2.2.2 < F 4)) : ixN x < 14 := by
  unfold ixN
  rcases h with h | h | h
  · rw [if_pos h.1]; omega
  · rw [if_neg (by omega), if_pos h.1]; omega
  · rw [if_neg (by omega), if_neg (by omega)]; omega
/-- only one of them is the name at hand -/
theorem VN.one {tp : Nat → Nat} {n : Nat} {F : Nat → Nat} {N : nT} (h : VN tp n F N) {a e i j : Nat} (hi : i < N.1) (hj : j < N.1) (e1 : sT tp a e (N.2 i) = true) (e2 : sT tp a e (N.2 j) = true) : i = j := by
  by_cases z : i = j
  · exact z
  · have := h.2.2 i j hi hj z
    obtain ⟨a1, a2⟩ := sT_iff.mp e1
    obtain ⟨b1, b2⟩ := sT_iff.mp e2
    have h3 : sT tp (N.2 i).1 ((N.2 i).1 + (N.2 i).2.1) (N.2 j) = true := sT_iff.mpr ⟨by omega, fun k hk => by
      have hk2 : k < e - a := by omega
      rw [← a2 k hk2, b2 k hk2]⟩
    rw [h3] at this; cases this
section NA
variable {tp : Nat → Nat} {n a e kd : Nat} {σc σm : zS} {F : Nat → Nat} {N : nT}
theorem C_isSame (hT : TP tp n σc σm) (hK : TK tp n a e kd σc σm) (r0 : σc.2 2 0 = 3) (hk1 : kd = 1) {x : Nat × Nat × Nat × Nat} (hx : 1 ≤ x.2.1 ∧ x.2.1 ≤ 8 ∧ x.1 + x.2.1 ≤ n ∧ ∀ k, k < x.2.1 → tp (x.1 + k) < 128) : f_X9_isSame 2 (nI x.1) (nI x.2.1) σc = some (bI (sT tp a e x), σc) := by
  obtain ⟨h9, h2, h3, hb⟩ := hT
  obtain ⟨⟨x1, x2, x3⟩, ⟨c3, c4, c5⟩, -, hw, -⟩ := hK
  obtain ⟨y1, y2, -, y4⟩ := hw hk1
  obtain ⟨v1, v2, v3, v4⟩ := hx
  unfold f_X9_isSame sT
  rw [zck_t k2, c4, c3, nI_sub (by omega)]
  by_cases q : x.2.1 = e - a
  · rw [zbr_t (by rw [q]), zlt_e, decide_eq_true q, Bool.true_and]
    refine zup (P := fun f k => (∀ i, i < k → decide (tp (a + i) = tp (x.1 + i)) = true) → f_X9_isSame_17 2 f (nI x.1) (nI x.2.1) (nI k) σc = _) (e - a) ?_ ?_ 0 (Nat.zero_le _) FU (by unfold FU; omega) (fun i hi => absurd hi (Nat.not_lt_zero i))
    · intro f hall
      rw [f_X9_isSame_17, q, zbr_t (Int32.le_refl _), al_iff.mpr hall]; rfl
    · intro f k hk ih hall
      have b1 := hb (a + k) (by omega)
      have b2 := hb (x.1 + k) (by omega)
      rw [f_X9_isSame_17, zbr_f (nI_ge (by omega) (by omega)), c3, nI_add, nI_add, r0, k3, zck_t (zok_p (by omega) (by decide)), zck_t (zok_p (by omega) (by decide)), nI_clamp (by omega), nI_clamp (by omega), b1.2.1, b2.2.1, sb_s (y4 k hk).2, sb_s (v4 k (by omega))]
      by_cases q3 : tp (a + k) = tp (x.1 + k)
      · rw [zbr_t (by rw [q3]), zlt_e, nI_1]
        exact ih (fun i hi => by
          by_cases z : i = k
          · subst z; exact decide_eq_true q3
          · exact hall i (by omega))
      · rw [zbr_f (fun z => q3 ((nI_eq (by omega) (by omega)).mp z)), al_ff hk (decide_eq_false q3)]; rfl
  · rw [zbr_f (fun z => q ((nI_eq (by omega) (by omega)).mp z).symm), decide_eq_false q]; rfl
theorem k5 : WC.2 5 = (100, 14) := rfl
theorem k6 : WC.2 6 = (100, 14) := rfl
theorem k7 : WC.2 7 = (100, 14) := rfl
theorem k8 : WC.2 8 = (100, 14) := rfl
theorem C_indexOf (hT : TP tp n σc σm) (hK : TK tp n a e kd σc σm) (r0 : σc.2 2 0 = 3) (hk1 : kd = 1) (r40 : σc.2 4 0 = 5) (r41 : σc.2 4 1 = 6) (hN : NC N σc) (hV : VN tp n F N) (hb : F 1 ≤ 6 ∧ F 3 ≤ 4 ∧ F 4 ≤ 4) : f_X4_indexOf 4 2 σc = some (oN (fi (fun i => sT tp a e (N.2 i)) N.1), σc) := by
  have hN1 := hV.1
  have h9 := hT.1
  unfold f_X4_indexOf
  rw [zck_t k4, zlt_e]
  refine zup (P := fun f k => (∀ i, i < k → sT tp a e (N.2 i) = false) → f_X4_indexOf_2 4 f 2 (nI k) σc = _) N.1 ?_ ?_ 0 (Nat.zero_le _) FU (by unfold FU; omega) (fun i hi => absurd hi (Nat.not_lt_zero i))
  · intro f hall
    rw [f_X4_indexOf_2, hN.1, zbr_t (Int32.le_refl _), fi_none.mpr hall]; rfl
  · intro f k hk ih hall
    obtain ⟨n1, n2, n3, n4⟩ := hN.2 k hk
    rw [f_X4_indexOf_2, hN.1, zbr_f (nI_ge hk (by omega)), r40, r41, k5, k6, zck_t (zok_p (by omega) (by decide)), zck_t (zok_p (by omega) (by decide)), zck_t k2, nI_clamp (by omega), n1, n2, C_isSame hT hK r0 hk1 (hV.2.1 k hk).1, zbd_s]
    cases q : sT tp a e (N.2 k)
    · rw [zbr_t (by rfl), zlt_e, nI_1]
      exact ih (fun i hi => by
        by_cases z : i = k
        · subst z; exact q
        · exact hall i (by omega))
    · rw [zbr_f (by decide), fi_iff.mpr ⟨hk, q, hall⟩]; rfl
theorem px69 (k : Nat) : (69 : Int32) + nI k = nI (69 + k) := by show nI 69 + nI k = _; rw [nI_add]
theorem px83 (m k : Nat) : ((83 : Int32) + (8 : Int32) * nI m) + nI k = nI (83 + 8 * m + k) := by show (nI 83 + nI 8 * nI m) + nI k = _; rw [nI_mul, nI_add, nI_add]
def fdN (tp : Nat → Nat) (a e : Nat) (N : nT) : Int32 := match fi (fun i => sT tp a e (N.2 i)) N.1 with
  | some i => nI (ixN (N.2 i))
  | none => -1
theorem M_find (hK : TK tp n a e kd σc σm) (hR : σm.2 = RM) (hk1 : kd = 1) (h9 : n ≤ 900) (hN : NM tp N σm) (hV : VN tp n F N) (hb : F 1 ≤ 6 ∧ F 3 ≤ 4 ∧ F 4 ≤ 4) : f_X11_find 0 σm = some (fdN tp a e N, σm) := by
  obtain ⟨⟨x1, x2, x3⟩, -, ⟨m4, m5, m6⟩, hw, -⟩ := hK
  obtain ⟨y1, y2, y3, y4⟩ := hw hk1
  have hN1 := hV.1
  -- one index: it is the name at hand, or not
  have step : ∀ (g m : Nat) (H : Int32 → zS → Option (Int32 × zS)), m < 14 → H = f_X11_find_2 0 g → ((∃ i, i < N.1 ∧ ixN (N.2 i) = m ∧ sT tp a e (N.2 i) = true) → f_X11_find_2 0 (g + 1) (nI m) σm = some (nI m, σm)) ∧ ((∀ i, i < N.1 → ixN (N.2 i) = m → sT tp a e (N.2 i) = false) → f_X11_find_2 0 (g + 1) (nI m) σm = H (nI (m + 1)) σm) := by
    intro g m H hm hH
    have zero : f_X11_find_40 0 H (nI m) σm = H (nI (m + 1)) σm := by
      unfold f_X11_find_40 f_X11_find_41
      rw [zlt_e, zlt_e]
      show f_X11_find_44 0 H (1999 + 1) (nI m) 0 0 σm = _
      rw [f_X11_find_44, y3]
      unfold f_X11_find_91
      rw [zbr_t (c := (0 : Int32) = 0) rfl, zbr_t (c := (0 : Int32) = 0) rfl, zlt_e, nI_1]
      by_cases z : nI (e - a) ≤ 0
      · rw [zbr_t z]
      · rw [zbr_f z]
    have one : f_X11_find_41 0 H (nI m) 1 σm = if al (fun k => decide (σm.1 4 (83 + 8 * m + k) = nI (tp (a + k)))) (e - a) then some (nI m, σm) else H (nI (m + 1)) σm := by
      unfold f_X11_find_41
      rw [zlt_e, zlt_e]
      have key : ∀ d k f, k + d = e - a → d + 1 < f → (∀ i, i < k → decide (σm.1 4 (83 + 8 * m + i) = nI (tp (a + i))) = true) → f_X11_find_44 0 H f (nI m) 1 (nI k) σm = if al (fun k => decide (σm.1 4 (83 + 8 * m + k) = nI (tp (a + k)))) (e - a) then some (nI m, σm) else H (nI (m + 1)) σm := by
        intro d
        induction d with
        | zero =>
          intro k f hk hf hall
          obtain ⟨f, rfl⟩ : ∃ g, f = g + 1 := ⟨f - 1, by omega⟩
          have : k = e - a := by omega
          subst this
          rw [f_X11_find_44, y3, zbr_t (Int32.le_refl _), al_iff.mpr hall, if_pos rfl]
          unfold f_X11_find_91
          rw [zbr_f (by decide)]
        | succ d ih =>
          intro k f hk hf hall
          obtain ⟨f, rfl⟩ : ∃ g, f = g + 2 := ⟨f - 2, by omega⟩
          have hk2 : k < e - a := by omega
          rw [f_X11_find_44, y3, zbr_f (nI_ge hk2 (by omega)), zbr_f (by decide), mr16 hR, mr12 hR, w4, w2, px83, zck_t (zok_p (by omega) (by decide)), zck_t (zok_p (by omega) (by decide)), nI_clamp (by omega), nI_clamp (by omega), (y4 k hk2).1]
          unfold f_X11_find_84
          by_cases q3 : σm.1 4 (83 + 8 * m + k) = nI (tp (a + k))
          · rw [zbr_t q3, zlt_e, zlt_e, nI_1]
            exact ih (k + 1) (f + 1) (by omega) (by omega) (fun i hi => by
              by_cases z : i = k
              · subst z; exact decide_eq_true q3
              · exact hall i (by omega))
          · rw [zbr_f q3, zlt_e, zlt_e, nI_1, al_ff hk2 (decide_eq_false q3), if_neg (by decide), f_X11_find_44, y3]
            unfold f_X11_find_91
            rw [zbr_t (c := (0 : Int32) = 0) rfl, zbr_t (c := (0 : Int32) = 0) rfl, zlt_e, nI_1]
            by_cases z : nI (e - a) ≤ nI (k + 1)
            · rw [zbr_t z]
            · rw [zbr_f z]
      exact key (e - a) 0 FU (by omega) (by unfold FU; omega) (fun i hi => absurd hi (Nat.not_lt_zero i))
    subst hH
    rw [f_X11_find_2, zbr_f (show ¬ (14 : Int32) ≤ nI m from nI_ge (b := 14) hm (by decide)), mr16 hR, w4, px69, zck_t (zok_p (by omega) (by decide)), nI_clamp (by omega), zck_t (zok_p (by omega) (by decide)), y3]
    constructor
    · rintro ⟨i, hi, rfl, hs⟩
      obtain ⟨s1, s2⟩ := sT_iff.mp hs
      obtain ⟨m1, m2⟩ := hN.1 i hi
      rw [m1, s1, zbr_f (nI_nle (by omega) (by omega)), zbr_t rfl, one, if_pos (al_iff.mpr (fun k hk => decide_eq_true (by rw [m2 k (by omega), s2 k hk])))]
    · intro hno
      by_cases hu : ∃ i, i < N.1 ∧ ixN (N.2 i) = m
      · obtain ⟨i, hi, rfl⟩ := hu
        obtain ⟨m1, m2⟩ := hN.1 i hi
        have hv := (hV.2.1 i hi).1
        have hs := hno i hi rfl
        rw [m1, zbr_f (nI_nle (by omega) (by omega))]
        by_cases q : (N.2 i).2.1 = e - a
        · rw [zbr_t (by rw [q]), one, if_neg]
          intro z
          have : sT tp a e (N.2 i) = true := sT_iff.mpr ⟨q, fun k hk => by
            have := of_decide_eq_true (al_iff.mp z k hk)
            rw [m2 k (by omega)] at this
            have hlt := hv.2.2.2 k (by omega)
            exact ((nI_eq (by omega) (by have := (y4 k hk).2; omega)).mp this).symm⟩
          rw [hs] at this; cases this
        · rw [zbr_f (fun z => q ((nI_eq (by omega) (by omega)).mp z))]
          exact zero
      · rw [hN.2 m hm (fun i hi z => hu ⟨i, hi, z⟩), zbr_t (by decide)]
        exact zero
  unfold f_X11_find fdN
  rw [zck_t w0, zlt_e]
  cases ef : fi (fun i => sT tp a e (N.2 i)) N.1 with
  | none =>
    have hno := fi_none.mp ef
    refine zup (P := fun f m => f_X11_find_2 0 f (nI m) σm = _) 14 ?_ ?_ 0 (Nat.zero_le _) FU (by unfold FU; omega)
    · intro f
      rw [f_X11_find_2, zbr_t (by decide)]
    · intro f m hm ih
      rw [(step f m _ hm rfl).2 (fun i hi _ => hno i hi)]
      exact ih
  | some i =>
    obtain ⟨hi, hs, -⟩ := fi_iff.mp ef
    have hix := ixN_b hb (hV.2.1 i hi).2
    have key : ∀ d m f, m + d = ixN (N.2 i) → d < f → f_X11_find_2 0 f (nI m) σm = some (nI (ixN (N.2 i)), σm) := by
      intro d
      induction d with
      | zero =>
        intro m f hm hf
        obtain ⟨f, rfl⟩ : ∃ g, f = g + 1 := ⟨f - 1, by omega⟩
        have : m = ixN (N.2 i) := by omega
        subst this
        exact (step f _ _ hix rfl).1 ⟨i, hi, rfl, hs⟩
      | succ d ih =>
        intro m f hm hf
        obtain ⟨f, rfl⟩ : ∃ g, f = g + 1 := ⟨f - 1, by omega⟩
        rw [(step f m _ (by omega) rfl).2 (fun j hj e2 => by
          cases e3 : sT tp a e (N.2 j)
          · rfl
          · have := hV.one hi hj hs e3
            subst this
            omega)]
        exact ih (m + 1) f (by omega) (by omega)
    exact key (ixN (N.2 i)) 0 FU (by omega) (by unfold FU; omega)
end NA
