/-! lines: over, done -/
section LC2
variable {b : Bool} {tp F R : Nat → Nat} {n a e kd : Nat} {N : nT} {σc σm : zS}
def ovT (F : Nat → Nat) (p q k : Nat) : Bool := (decide (F (22 + 2 * k) = p) && decide (F (23 + 2 * k) = q)) || (decide (F (22 + 2 * k) = q) && decide (F (23 + 2 * k) = p))
theorem C_hasOver {c : Nat} {σ : zS} (hk : lK c σ.2) (hg : gA c F σ.1) (h6 : F 2 ≤ 6) (hr : ∀ k, k < F 2 → F (22 + 2 * k) < 1000 ∧ F (23 + 2 * k) < 1000) {p q : Nat} (hp : p < 1000) (hq : q < 1000) : f_X3_hasOver c (nI p) (nI q) σ = some (bI (an (ovT F p q) (F 2)), σ) := by
  obtain ⟨k0, ⟨-, -, k3, k4, -⟩, ⟨-, -, d3, d4, -⟩, -⟩ := hk
  unfold f_X3_hasOver
  rw [zck_t k0, zlt_e]
  suffices key : ∀ k, k ≤ F 2 → ∀ f, F 2 - k < f → (∀ j, j < k → ovT F p q j = false) → f_X3_hasOver_2 c f (nI p) (nI q) (nI k) σ = some (bI (an (ovT F p q) (F 2)), σ) from key 0 (Nat.zero_le _) FU (by unfold FU; omega) (fun p hp => absurd hp (Nat.not_lt_zero p))
  refine zup (P := fun f k => (∀ j, j < k → ovT F p q j = false) → f_X3_hasOver_2 c f (nI p) (nI q) (nI k) σ = _) (F 2) ?_ ?_
  · intro f hall
    rw [f_X3_hasOver_2, hg.1.2.2.1, zbr_t (Int32.le_refl _), show an (ovT F p q) (F 2) = false by
      cases z : an (ovT F p q) (F 2) with
      | false => rfl
      | true =>
        obtain ⟨j, hj, y⟩ := an_iff.mp z
        rw [hall j hj] at y
        exact y.symm]
    rfl
  · intro f k hk ih hall
    have rr := hr k hk
    have e1 : ∀ x y : Nat, x < 1000 → y < 1000 → (nI x = nI y ↔ x = y) := fun x y h1 h2 => nI_eq (by omega) (by omega)
    rw [f_X3_hasOver_2, hg.1.2.2.1, zbr_f (nI_ge hk (by omega)), k3, d3, zck_t (zok_p (by omega) (by decide)), nI_clamp (by omega), (hg.2.2.1 k hk).1, k4, d4, zck_t (zok_p (by omega) (by decide)), (hg.2.2.1 k hk).2]
    have i30 : f_X3_hasOver_30 c (f_X3_hasOver_2 c f) (nI p) (nI q) (nI k) σ = if F (22 + 2 * k) = q ∧ F (23 + 2 * k) = p then some (1, σ) else f_X3_hasOver_2 c f (nI p) (nI q) (nI (k + 1)) σ := by
      unfold f_X3_hasOver_30 f_X3_hasOver_52
      rw [k3, d3, zck_t (zok_p (by omega) (by decide)), nI_clamp (by omega), (hg.2.2.1 k hk).1, k4, d4, zck_t (zok_p (by omega) (by decide)), (hg.2.2.1 k hk).2, zlt_e, nI_1]
      by_cases y1 : F (22 + 2 * k) = q
      · rw [zbr_t (by rw [y1])]
        by_cases y2 : F (23 + 2 * k) = p
        · rw [zbr_t (by rw [y2]), if_pos ⟨y1, y2⟩]; rfl
        · rw [zbr_f (fun z => y2 ((e1 _ _ rr.2 hp).mp z)), if_neg (fun z => y2 z.2)]
      · rw [zbr_f (fun z => y1 ((e1 _ _ rr.1 hq).mp z)), if_neg (fun z => y1 z.1)]
    rw [i30]
    cases ot : ovT F p q k with
    | true =>
      rw [show an (ovT F p q) (F 2) = true from an_iff.mpr ⟨k, hk, ot⟩]
      have oo : (F (22 + 2 * k) = p ∧ F (23 + 2 * k) = q) ∨ (F (22 + 2 * k) = q ∧ F (23 + 2 * k) = p) := by
        unfold ovT at ot
        simpa using ot
      by_cases y1 : F (22 + 2 * k) = p ∧ F (23 + 2 * k) = q
      · rw [zbr_t (by rw [y1.1]), zbr_t (by rw [y1.2])]; rfl
      · have y2 : F (22 + 2 * k) = q ∧ F (23 + 2 * k) = p := oo.resolve_left y1
        rw [if_pos y2]
        by_cases x1 : nI (F (22 + 2 * k)) = nI p
        · rw [zbr_t x1, zbr_f (fun z => y1 ⟨(e1 _ _ rr.1 hp).mp x1, (e1 _ _ rr.2 hq).mp z⟩)]; rfl
        · rw [zbr_f x1]; rfl
    | false =>
      have oo : ¬ (F (22 + 2 * k) = p ∧ F (23 + 2 * k) = q) ∧ ¬ (F (22 + 2 * k) = q ∧ F (23 + 2 * k) = p) := by
        refine ⟨fun z => ?_, fun z => ?_⟩
        · rw [show ovT F p q k = true by unfold ovT; simp [z.1, z.2]] at ot; exact absurd ot (by decide)
        · rw [show ovT F p q k = true by unfold ovT; simp [z.1, z.2]] at ot; exact absurd ot (by decide)
      have fin := ih (fun j hj => by
        by_cases y : j = k
        · rw [y]; exact ot
        · exact hall j (by omega))
      rw [if_neg oo.2, fin]
      by_cases x1 : nI (F (22 + 2 * k)) = nI p
      · rw [zbr_t x1, zbr_f (fun z => oo.1 ⟨(e1 _ _ rr.1 hp).mp x1, (e1 _ _ rr.2 hq).mp z⟩)]
      · rw [zbr_f x1]
theorem px22 (k : Nat) : (22 : Int32) + (2 : Int32) * nI k = nI (22 + 2 * k) := by show nI 22 + nI 2 * nI k = _; rw [nI_mul, nI_add]
/-- the reference's search of a rule, once it failed -/
theorem Mf_151 {τ : zS} (h13 : τ.1 0 13 = 1) (x1 x2 x3 : Int32) : f_X11_overLine_151 0 x1 x2 x3 τ = some ((), τ) := by
  unfold f_X11_overLine_151
  rw [Mf_pass h13, zbd_s, zbr_f (by rw [h13]; decide)]
theorem Mf_42 {τ : zS} (hR : τ.2 = RM) (h13 : τ.1 0 13 = 1) (h2 : τ.1 4 2 = nI (F 2)) (h6 : F 2 < 6) (x1 x2 x3 s0 : Int32) : f_X11_overLine_42 0 x1 x2 x3 s0 τ = some ((), τ) := by
  have m16 := mr16 hR
  unfold f_X11_overLine_42
  rw [zlt_e, zlt_e]
  suffices key : ∀ k, k ≤ F 2 → ∀ f, F 2 - k < f → ∀ x4, f_X11_overLine_47 0 f x1 x2 x3 x4 (nI k) τ = some ((), τ) from key 0 (Nat.zero_le _) FU (by unfold FU; omega) s0
  refine zup (P := fun f k => ∀ x4, f_X11_overLine_47 0 f x1 x2 x3 x4 (nI k) τ = some ((), τ)) (F 2) ?_ ?_
  · intro f x4
    rw [f_X11_overLine_47, m16, w4, zck_t (by decide), cl2, h2, zbr_t (Int32.le_refl _), zbr_f (by rw [h13]; decide), Mf_151 h13]
  · intro f k hk ih x4
    have a117 : f_X11_overLine_117 0 (f_X11_overLine_47 0 f) x1 x2 x3 (nI k) τ = some ((), τ) := by
      unfold f_X11_overLine_117 f_X11_overLine_122
      rw [zlt_e, zlt_e, nI_1]; exact ih 1
    have a121 : f_X11_overLine_121 0 (f_X11_overLine_47 0 f) x1 x2 x3 (nI k) τ = some ((), τ) := by
      unfold f_X11_overLine_121 f_X11_overLine_122
      rw [zlt_e, zlt_e, nI_1]; exact ih 0
    have a105 : ∀ x y, f_X11_overLine_105 0 (f_X11_overLine_47 0 f) x1 x2 x3 (nI k) x y τ = some ((), τ) := by
      intro x y
      unfold f_X11_overLine_105
      rw [a117, a121]
      by_cases z1 : x = x3
      · rw [zbr_t z1]
        by_cases z2 : y = x2
        · rw [zbr_t z2]
        · rw [zbr_f z2]
      · rw [zbr_f z1]
    rw [f_X11_overLine_47, m16, w4, zck_t (by decide), cl2, h2, zbr_f (nI_ge hk (by omega)), px22, zck_t (zok_p (by omega) (by decide)), zlt_e, nI_1, zck_t (zok_p (by omega) (by decide)), zlt_e, a117, a105]
    by_cases z1 : x4 = 0
    · rw [zbr_t z1]
      by_cases z2 : τ.1 4 (nI (22 + 2 * k)).toNatClampNeg = x2
      · rw [zbr_t z2]
        by_cases z3 : τ.1 4 (nI (22 + 2 * k + 1)).toNatClampNeg = x3
        · rw [zbr_t z3]
        · rw [zbr_f z3]
      · rw [zbr_f z2]
    · rw [zbr_f z1]
theorem M_47 (hR : σm.2 = RM) (h13 : σm.1 0 13 = 0) (h4 : ∀ k, k < 69 → σm.1 4 k = nI (F k)) (h6 : F 2 < 6) (hr : ∀ k, k < F 2 → F (22 + 2 * k) < 1000 ∧ F (23 + 2 * k) < 1000) {p q : Nat} (hp : p < 1000) (hq : q < 1000) (x1 y : Int32) (hy : σm.1 0 4 = y) (t : Bool) :
    ((t || an (ovT F p q) (F 2)) = true → f_X11_overLine_42 0 x1 (nI p) (nI q) (bI t) σm = some ((), wr σm 3 y)) ∧ ((t || an (ovT F p q) (F 2)) = false → f_X11_overLine_42 0 x1 (nI p) (nI q) (bI t) σm = f_X11_overLine_151 0 x1 (nI p) (nI q) σm) := by
  have m16 := mr16 hR
  have h2 := h4 2 (by omega)
  have key : ∀ k, k ≤ F 2 → ∀ f, F 2 - k < f → ∀ t : Bool, ((t = true ∨ ∃ j, k ≤ j ∧ j < F 2 ∧ ovT F p q j = true) → f_X11_overLine_47 0 f x1 (nI p) (nI q) (bI t) (nI k) σm = some ((), wr σm 3 y)) ∧ ((t = false ∧ ∀ j, k ≤ j → j < F 2 → ovT F p q j = false) → f_X11_overLine_47 0 f x1 (nI p) (nI q) (bI t) (nI k) σm = f_X11_overLine_151 0 x1 (nI p) (nI q) σm) := by
    refine zup (P := fun f k => ∀ t : Bool, ((t = true ∨ ∃ j, k ≤ j ∧ j < F 2 ∧ ovT F p q j = true) → f_X11_overLine_47 0 f x1 (nI p) (nI q) (bI t) (nI k) σm = some ((), wr σm 3 y)) ∧ ((t = false ∧ ∀ j, k ≤ j → j < F 2 → ovT F p q j = false) → f_X11_overLine_47 0 f x1 (nI p) (nI q) (bI t) (nI k) σm = f_X11_overLine_151 0 x1 (nI p) (nI q) σm)) (F 2) ?_ ?_
    · intro f t
      refine ⟨fun z => ?_, fun z => ?_⟩
      · have ht : t = true := by
          rcases z with z | ⟨j, z1, z2, -⟩
          · exact z
          · omega
        rw [ht, f_X11_overLine_47, m16, w4, zck_t (by decide), cl2, h2, zbr_t (Int32.le_refl _), zbr_t h13, zbr_f (c := bI true = 0) (by decide), M_wrong h13, zbd_s, Mf_151 (wr_13 _ _ _), hy]
      · rw [z.1, f_X11_overLine_47, m16, w4, zck_t (by decide), cl2, h2, zbr_t (Int32.le_refl _), zbr_t h13, zbr_t (c := bI false = 0) rfl]
    · intro f k hk ih t
      have rr := hr k hk
      have e1 : ∀ x y : Nat, x < 1000 → y < 1000 → (nI x = nI y ↔ x = y) := fun x y h1 h2 => nI_eq (by omega) (by omega)
      have a117 : f_X11_overLine_117 0 (f_X11_overLine_47 0 f) x1 (nI p) (nI q) (nI k) σm = f_X11_overLine_47 0 f x1 (nI p) (nI q) (bI true) (nI (k + 1)) σm := by
        unfold f_X11_overLine_117 f_X11_overLine_122
        rw [zlt_e, zlt_e, nI_1]; rfl
      have a121 : f_X11_overLine_121 0 (f_X11_overLine_47 0 f) x1 (nI p) (nI q) (nI k) σm = f_X11_overLine_47 0 f x1 (nI p) (nI q) (bI false) (nI (k + 1)) σm := by
        unfold f_X11_overLine_121 f_X11_overLine_122
        rw [zlt_e, zlt_e, nI_1]; rfl
      have st : f_X11_overLine_47 0 (f + 1) x1 (nI p) (nI q) (bI t) (nI k) σm = f_X11_overLine_47 0 f x1 (nI p) (nI q) (bI (t || ovT F p q k)) (nI (k + 1)) σm := by
        rw [f_X11_overLine_47, m16, w4, zck_t (by decide), cl2, h2, zbr_f (nI_ge hk (by omega)), px22, zck_t (zok_p (by omega) (by decide)), zlt_e, nI_1, zck_t (zok_p (by omega) (by decide)), zlt_e, nI_clamp (by omega), nI_clamp (by omega), h4 _ (by omega), h4 _ (by omega), show 22 + 2 * k + 1 = 23 + 2 * k by omega]
        unfold f_X11_overLine_105
        rw [a117, a121]
        cases t with
        | true => rw [zbr_f (c := bI true = 0) (by decide)]; rfl
        | false =>
          rw [zbr_t (c := bI false = 0) rfl, Bool.false_or]
          unfold ovT
          by_cases y1 : F (22 + 2 * k) = p
          · by_cases y2 : F (23 + 2 * k) = q
            · rw [zbr_t (by rw [y1]), zbr_t (by rw [y2]), decide_eq_true y1, decide_eq_true y2]; rfl
            · rw [zbr_t (by rw [y1]), zbr_f (fun z => y2 ((e1 _ _ rr.2 hq).mp z)), decide_eq_true y1, decide_eq_false y2]
              by_cases y3 : F (22 + 2 * k) = q
              · rw [zbr_t (by rw [y3]), decide_eq_true y3]
                by_cases y4 : F (23 + 2 * k) = p
                · rw [zbr_t (by rw [y4]), decide_eq_true y4]; rfl
                · rw [zbr_f (fun z => y4 ((e1 _ _ rr.2 hp).mp z)), decide_eq_false y4]; rfl
              · rw [zbr_f (fun z => y3 ((e1 _ _ rr.1 hq).mp z)), decide_eq_false y3]; rfl
          · rw [zbr_f (fun z => y1 ((e1 _ _ rr.1 hp).mp z)), decide_eq_false y1]
            by_cases y3 : F (22 + 2 * k) = q
            · rw [zbr_t (by rw [y3]), decide_eq_true y3]
              by_cases y4 : F (23 + 2 * k) = p
              · rw [zbr_t (by rw [y4]), decide_eq_true y4]; rfl
              · rw [zbr_f (fun z => y4 ((e1 _ _ rr.2 hp).mp z)), decide_eq_false y4]; rfl
            · rw [zbr_f (fun z => y3 ((e1 _ _ rr.1 hq).mp z)), decide_eq_false y3]; rfl
      rw [st]
      have hi := ih (t || ovT F p q k)
      refine ⟨fun z => hi.1 ?_, fun z => hi.2 ⟨?_, fun j z1 z2 => z.2 j (by omega) z2⟩⟩
      · rcases z with z | ⟨j, z1, z2, z3⟩
        · exact Or.inl (by rw [z]; rfl)
        · by_cases y : j = k
          · exact Or.inl (by rw [← y, z3, Bool.or_true])
          · exact Or.inr ⟨j, by omega, z2, z3⟩
      · rw [z.1, z.2 k (Nat.le_refl _) hk]; rfl
  unfold f_X11_overLine_42
  rw [zlt_e, zlt_e]
  have hk := key 0 (Nat.zero_le _) FU (by unfold FU; omega) t
  refine ⟨fun z => hk.1 ?_, fun z => hk.2 ?_⟩
  · cases t with
    | true => exact Or.inl rfl
    | false =>
      obtain ⟨j, hj, y⟩ := an_iff.mp z
      exact Or.inr ⟨j, Nat.zero_le _, hj, y⟩
  · cases t with
    | true => exact absurd z (by simp)
    | false =>
      refine ⟨rfl, fun j _ hj => ?_⟩
      cases y : ovT F p q j with
      | false => rfl
      | true => exact absurd ((an_iff.mpr ⟨j, hj, y⟩).symm.trans z) (by decide)
end LC2
