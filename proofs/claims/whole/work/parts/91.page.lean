/-! pages that change: a line laid, a page copied, what is kept of the past -/
theorem Rel.ref {ρ : Type} {σc σm : zS} (hR : Rel σc σm) {fc fm : Option (ρ × zS)} {v : ρ} {t : Int32} (ht : t ≠ 4) (h1 : QC fc σc v t) (h2 : QM fm σm v t) : ∃ (r : ρ) (σc1 σm1 : zS), fc = some (r, σc1) ∧ fm = some (r, σm1) ∧ Rel σc1 σm1 := hR.q (fun _ _ _ _ _ _ _ _ _ => ⟨v, t, ht, h1, h2⟩)
def layB (B : Nat → Nat) (h p m s w : Nat) : Nat → Nat := fun k => if k = 48 then B 48 + 1 else if k = 6 * B 48 + 5 then 0 else if k = 6 * B 48 + 4 then w else if k = 6 * B 48 + 3 then s else if k = 6 * B 48 + 2 then m else if k = 6 * B 48 + 1 then p else if k = 6 * B 48 then h else B k
section LB
variable {B : Nat → Nat} {h p m s w : Nat}
theorem layB_48 : layB B h p m s w 48 = B 48 + 1 := if_pos rfl
theorem layB_49 (h8 : B 48 < 8) : layB B h p m s w 49 = B 49 := by
  unfold layB
  rw [if_neg (by omega), if_neg (by omega), if_neg (by omega), if_neg (by omega), if_neg (by omega), if_neg (by omega), if_neg (by omega)]
theorem layB_n (h8 : B 48 < 8) : layB B h p m s w (6 * B 48) = h ∧ layB B h p m s w (6 * B 48 + 1) = p ∧ layB B h p m s w (6 * B 48 + 2) = m ∧ layB B h p m s w (6 * B 48 + 3) = s ∧ layB B h p m s w (6 * B 48 + 4) = w ∧ layB B h p m s w (6 * B 48 + 5) = 0 := by
  unfold layB
  refine ⟨?_, ?_, ?_, ?_, ?_, ?_⟩
  · rw [if_neg (by omega), if_neg (by omega), if_neg (by omega), if_neg (by omega), if_neg (by omega), if_neg (by omega), if_pos rfl]
  · rw [if_neg (by omega), if_neg (by omega), if_neg (by omega), if_neg (by omega), if_neg (by omega), if_pos rfl]
  · rw [if_neg (by omega), if_neg (by omega), if_neg (by omega), if_neg (by omega), if_pos rfl]
  · rw [if_neg (by omega), if_neg (by omega), if_neg (by omega), if_pos rfl]
  · rw [if_neg (by omega), if_neg (by omega), if_pos rfl]
  · rw [if_neg (by omega), if_pos rfl]
theorem layB_o (h8 : B 48 < 8) {k j : Nat} (hk : k < B 48) (hj : j < 6) : layB B h p m s w (6 * k + j) = B (6 * k + j) := by
  unfold layB
  rw [if_neg (by omega), if_neg (by omega), if_neg (by omega), if_neg (by omega), if_neg (by omega), if_neg (by omega), if_neg (by omega)]
theorem sm_cong {f g : Nat → Nat} : ∀ {n : Nat}, (∀ k, k < n → f k = g k) → sm f n = sm g n
  | 0, _ => rfl
  | n + 1, h => by rw [sm, sm, h n (by omega), sm_cong (fun k hk => h k (by omega))]
theorem used_lay (h8 : B 48 < 8) (q : Nat) : used (layB B h p m s w) q (B 48 + 1) = used B q (B 48) + (if p = q then w else 0) := by
  obtain ⟨-, e1, -, -, e4, -⟩ := layB_n (B := B) (h := h) (p := p) (m := m) (s := s) (w := w) h8
  unfold used
  rw [sm, e1, e4, sm_cong (fun k hk => by rw [layB_o h8 hk (by omega), layB_o h8 hk (by omega)])]
theorem vP_lay {A : Nat → Nat} (hB : vP A B) (h8 : B 48 < 8) (hh : h < A 3) (hp : p < A 1) (hm : m < A 4) (hs : s ≤ 1) (hw1 : 1 ≤ w) (hw9 : w ≤ 9) (hr : w ≤ room A B p) : vP A (layB B h p m s w) := by
  obtain ⟨e0, e1, e2, e3, e4, e5⟩ := layB_n (B := B) (h := h) (p := p) (m := m) (s := s) (w := w) h8
  obtain ⟨⟨b1, b2, b3⟩, b4⟩ := hB
  refine ⟨⟨by rw [layB_48]; omega, by rw [layB_49 h8]; exact b2, fun k hk => ?_⟩, fun q hq => ?_⟩
  · rw [layB_48] at hk
    by_cases z : k = B 48
    · subst z
      rw [e0, e1, e2, e3, e4, e5]
      omega
    · have hk : k < B 48 := by omega
      have e0' : layB B h p m s w (6 * k) = B (6 * k) := layB_o h8 hk (j := 0) (by omega)
      rw [e0', layB_o h8 hk (by omega), layB_o h8 hk (by omega), layB_o h8 hk (by omega), layB_o h8 hk (by omega), layB_o h8 hk (by omega)]
      exact b3 k hk
  · rw [layB_48, used_lay h8]
    have := b4 q hq
    by_cases z : p = q
    · subst z
      rw [if_pos rfl]
      unfold room at hr
      omega
    · rw [if_neg z]
      omega
theorem M_lay {r : Nat} {σ : zS} (hr : rowM r B σ) (h8 : B 48 < 8) (h p m s w : Nat) : zH (f_X11_lay r (nI h) (nI p) (nI m) (nI s) (nI w) σ) (fun _ σ' => fr (fun a _ => a = r) σ σ' ∧ ∀ k, k < 50 → σ'.1 r k = nI (layB B h p m s w k)) := by
  obtain ⟨hw, hb⟩ := hr
  unfold f_X11_lay
  rw [hw, cl48, hb 48 (by omega)]
  refine zH_ck (by decide) (zH_lt ?_)
  rw [ix0, ix1, ix2, ix3, ix4, ix5, nI_clamp (n := 6 * B 48) (by omega), nI_clamp (n := 6 * B 48 + 1) (by omega), nI_clamp (n := 6 * B 48 + 2) (by omega), nI_clamp (n := 6 * B 48 + 3) (by omega), nI_clamp (n := 6 * B 48 + 4) (by omega), nI_clamp (n := 6 * B 48 + 5) (by omega)]
  refine zH_ck (zok_p (by omega) (by decide)) (zH_lt (zH_ck (zok_p (by omega) (by decide)) (zH_lt (zH_ck (zok_p (by omega) (by decide)) (zH_lt (zH_ck (zok_p (by omega) (by decide)) (zH_lt (zH_ck (zok_p (by omega) (by decide)) (zH_lt (zH_ck (zok_p (by omega) (by decide)) (zH_lt (zH_ck (by decide) (zH_ck (by decide) (zH_lt (zH_ok ?_)))))))))))))))
  rw [zpi_ne _ _ (show ¬ (r = r ∧ 48 = 6 * B 48 + 5) by omega), zpi_ne _ _ (show ¬ (r = r ∧ 48 = 6 * B 48 + 4) by omega), zpi_ne _ _ (show ¬ (r = r ∧ 48 = 6 * B 48 + 3) by omega), zpi_ne _ _ (show ¬ (r = r ∧ 48 = 6 * B 48 + 2) by omega), zpi_ne _ _ (show ¬ (r = r ∧ 48 = 6 * B 48 + 1) by omega), zpi_ne _ _ (show ¬ (r = r ∧ 48 = 6 * B 48) by omega), hb 48 (by omega), nI_1]
  refine ⟨(((((((fr_r (fun a _ => a = r) σ).pi _ rfl).pi _ rfl).pi _ rfl).pi _ rfl).pi _ rfl).pi _ rfl).pi _ rfl, fun k hk => ?_⟩
  simp only [zpi_1, eq_self, true_and]
  unfold layB
  by_cases e1 : k = 48
  · rw [if_pos e1, if_pos e1]
  · rw [if_neg e1, if_neg e1]
    by_cases e2 : k = 6 * B 48 + 5
    · rw [if_pos e2, if_pos e2]; rfl
    · rw [if_neg e2, if_neg e2]
      by_cases e3 : k = 6 * B 48 + 4
      · rw [if_pos e3, if_pos e3]
      · rw [if_neg e3, if_neg e3]
        by_cases e4 : k = 6 * B 48 + 3
        · rw [if_pos e4, if_pos e4]
        · rw [if_neg e4, if_neg e4]
          by_cases e5 : k = 6 * B 48 + 2
          · rw [if_pos e5, if_pos e5]
          · rw [if_neg e5, if_neg e5]
            by_cases e6 : k = 6 * B 48 + 1
            · rw [if_pos e6, if_pos e6]
            · rw [if_neg e6, if_neg e6]
              by_cases e7 : k = 6 * B 48
              · rw [if_pos e7, if_pos e7]
              · rw [if_neg e7, if_neg e7]
                exact hb k hk
theorem C_add {c : Nat} {σ : zS} (hc : pC c B σ) (h8 : B 48 < 8) (h p m s w : Nat) : zH (f_X6_add c (nI h) (nI p) (nI m) (nI s) (nI w) σ) (fun _ σ' => fr (fun a _ => c ≤ a ∧ a ≤ c + 5) σ σ' ∧ pI c (layB B h p m s w) σ'.1) := by
  obtain ⟨⟨c0, ⟨c1, c2, c3, c4, c5⟩, d1, d2, d3, d4, d5⟩, i5, i6, i7, hrow⟩ := hc
  obtain ⟨e0, e1, e2, e3, e4, e5⟩ := layB_n (B := B) (h := h) (p := p) (m := m) (s := s) (w := w) h8
  unfold f_X6_add
  rw [i5, c1, d1, nI_clamp (by omega)]
  refine zH_ck c0 (zH_t (show nI (B 48) < (8 : Int32) from nI_lt (b := 8) h8 (by decide)) (zH_ck (zok_p h8 (by decide)) (zH_lt ?_)))
  rw [zpi_2, c2, d2, zpi_ne _ _ (by omega), i5, nI_clamp (by omega)]
  refine zH_ck (zok_p h8 (by decide)) (zH_lt ?_)
  rw [zpi_2, zpi_2, c3, d3, zpi_ne _ _ (by omega), zpi_ne _ _ (by omega), i5, nI_clamp (by omega)]
  refine zH_ck (zok_p h8 (by decide)) (zH_lt ?_)
  rw [zpi_2, zpi_2, zpi_2, c4, d4, zpi_ne _ _ (by omega), zpi_ne _ _ (by omega), zpi_ne _ _ (by omega), i5, nI_clamp (by omega)]
  refine zH_ck (zok_p h8 (by decide)) (zH_lt ?_)
  rw [zpi_2, zpi_2, zpi_2, zpi_2, c5, d5, zpi_ne _ _ (by omega), zpi_ne _ _ (by omega), zpi_ne _ _ (by omega), zpi_ne _ _ (by omega), i5, nI_clamp (by omega)]
  refine zH_ck (zok_p h8 (by decide)) (zH_lt (zH_lt (zH_ok ?_)))
  rw [zpi_ne _ _ (by omega), zpi_ne _ _ (by omega), zpi_ne _ _ (by omega), zpi_ne _ _ (by omega), zpi_ne _ _ (by omega), i5, nI_1]
  refine ⟨((((((fr_r _ σ).pi _ (by omega)).pi _ (by omega)).pi _ (by omega)).pi _ (by omega)).pi _ (by omega)).pi _ (by omega), ?_, ?_, ?_, fun k hk => ?_⟩
  · rw [zpi_eq, layB_48]
  · rw [zpi_ne _ _ (by omega), zpi_ne _ _ (by omega), zpi_ne _ _ (by omega), zpi_ne _ _ (by omega), zpi_ne _ _ (by omega), zpi_ne _ _ (by omega), i6]
    congr 1
    apply mk_cong
    intro k hk
    unfold skB
    rw [layB_48]
    by_cases z : k = B 48
    · subst z
      rw [e5, decide_eq_false (Nat.lt_irrefl _), decide_eq_false (show ¬ (0 : Nat) = 1 by omega)]
      simp
    · by_cases y : k < B 48
      · rw [layB_o h8 y (by omega), decide_eq_true y, decide_eq_true (show k < B 48 + 1 by omega)]
      · rw [decide_eq_false y, decide_eq_false (show ¬ k < B 48 + 1 by omega)]
        simp
  · rw [zpi_ne _ _ (by omega), zpi_ne _ _ (by omega), zpi_ne _ _ (by omega), zpi_ne _ _ (by omega), zpi_ne _ _ (by omega), zpi_ne _ _ (by omega), i7, layB_49 h8]
  · rw [layB_48] at hk
    by_cases z : k = B 48
    · subst z
      rw [e0, e1, e2, e3, e4]
      refine ⟨?_, ?_, ?_, ?_, ?_⟩
      · rw [zpi_ne _ _ (by omega), zpi_ne _ _ (by omega), zpi_ne _ _ (by omega), zpi_ne _ _ (by omega), zpi_ne _ _ (by omega), zpi_eq]
      · rw [zpi_ne _ _ (by omega), zpi_ne _ _ (by omega), zpi_ne _ _ (by omega), zpi_ne _ _ (by omega), zpi_eq]
      · rw [zpi_ne _ _ (by omega), zpi_ne _ _ (by omega), zpi_ne _ _ (by omega), zpi_eq]
      · rw [zpi_ne _ _ (by omega), zpi_ne _ _ (by omega), zpi_eq]
      · rw [zpi_ne _ _ (by omega), zpi_eq]
    · have hk : k < B 48 := by omega
      have q0 : layB B h p m s w (6 * k) = B (6 * k) := layB_o h8 hk (j := 0) (by omega)
      rw [q0, layB_o h8 hk (by omega), layB_o h8 hk (by omega), layB_o h8 hk (by omega), layB_o h8 hk (by omega)]
      have hr := hrow k hk
      refine ⟨?_, ?_, ?_, ?_, ?_⟩
      · rw [zpi_ne _ _ (by omega), zpi_ne _ _ (by omega), zpi_ne _ _ (by omega), zpi_ne _ _ (by omega), zpi_ne _ _ (by omega), zpi_ne _ _ (by omega)]; exact hr.1
      · rw [zpi_ne _ _ (by omega), zpi_ne _ _ (by omega), zpi_ne _ _ (by omega), zpi_ne _ _ (by omega), zpi_ne _ _ (by omega), zpi_ne _ _ (by omega)]; exact hr.2.1
      · rw [zpi_ne _ _ (by omega), zpi_ne _ _ (by omega), zpi_ne _ _ (by omega), zpi_ne _ _ (by omega), zpi_ne _ _ (by omega), zpi_ne _ _ (by omega)]; exact hr.2.2.1
      · rw [zpi_ne _ _ (by omega), zpi_ne _ _ (by omega), zpi_ne _ _ (by omega), zpi_ne _ _ (by omega), zpi_ne _ _ (by omega), zpi_ne _ _ (by omega)]; exact hr.2.2.2.1
      · rw [zpi_ne _ _ (by omega), zpi_ne _ _ (by omega), zpi_ne _ _ (by omega), zpi_ne _ _ (by omega), zpi_ne _ _ (by omega), zpi_ne _ _ (by omega)]; exact hr.2.2.2.2
end LB
theorem C_copyFrom {c x : Nat} {B : Nat → Nat} {σ : zS} (hc : pK c σ.2) (hx : pC x B σ) (h8 : B 48 ≤ 8) (hd : c + 5 < x ∨ x + 5 < c) : zH (f_X6_copyFrom c x σ) (fun _ σ' => fr (fun a _ => c ≤ a ∧ a ≤ c + 5) σ σ' ∧ pI c B σ'.1) := by
  obtain ⟨c0, ⟨c1, c2, c3, c4, c5⟩, d1, d2, d3, d4, d5⟩ := hc
  obtain ⟨⟨x0, ⟨x1, x2, x3, x4, x5⟩, y1, y2, y3, y4, y5⟩, hp⟩ := hx
  unfold f_X6_copyFrom
  refine zH_ck c0 (zH_lt ?_)
  suffices key : ∀ k, k ≤ B 48 → ∀ f, B 48 - k < f → ∀ τ, fr (fun a _ => c ≤ a ∧ a ≤ c + 5) σ τ → (∀ j, j < k → τ.1 (c + 1) j = nI (B (6 * j)) ∧ τ.1 (c + 2) j = nI (B (6 * j + 1)) ∧ τ.1 (c + 3) j = nI (B (6 * j + 2)) ∧ τ.1 (c + 4) j = nI (B (6 * j + 3)) ∧ τ.1 (c + 5) j = nI (B (6 * j + 4))) → zH (f_X6_copyFrom_2 c f x (nI k) τ) (fun _ σ' => fr (fun a _ => c ≤ a ∧ a ≤ c + 5) σ σ' ∧ pI c B σ'.1) from key 0 (Nat.zero_le _) FU (by unfold FU; omega) σ (fr_r _ σ) (fun j hj => absurd hj (Nat.not_lt_zero j))
  refine zup (P := fun f k => ∀ τ, fr (fun a _ => c ≤ a ∧ a ≤ c + 5) σ τ → (∀ j, j < k → τ.1 (c + 1) j = nI (B (6 * j)) ∧ τ.1 (c + 2) j = nI (B (6 * j + 1)) ∧ τ.1 (c + 3) j = nI (B (6 * j + 2)) ∧ τ.1 (c + 4) j = nI (B (6 * j + 3)) ∧ τ.1 (c + 5) j = nI (B (6 * j + 4))) → zH (f_X6_copyFrom_2 c f x (nI k) τ) _) (B 48) ?_ ?_
  · intro f τ hF hall
    have q := hp.f (j := τ.1) (fun a k h1 h2 => hF.2 a k (by omega))
    rw [f_X6_copyFrom_2, q.1]
    refine zH_ck x0 (zH_t (Int32.le_refl _) (zH_lt (zH_lt (zH_lt (zH_ok ?_)))))
    rw [zpi_ne _ _ (show ¬ (x = c ∧ 6 = 5) by omega), zpi_ne _ _ (show ¬ (x = c ∧ 7 = 6) by omega), zpi_ne _ _ (show ¬ (x = c ∧ 7 = 5) by omega), q.2.1, q.2.2.1]
    refine ⟨((hF.pi _ (by omega)).pi _ (by omega)).pi _ (by omega), ?_, ?_, ?_, fun j hj => ?_⟩
    · rw [zpi_ne _ _ (by omega), zpi_ne _ _ (by omega), zpi_eq]
    · rw [zpi_ne _ _ (by omega), zpi_eq]
    · rw [zpi_eq]
    · have hh := hall j hj
      refine ⟨?_, ?_, ?_, ?_, ?_⟩
      · rw [zpi_ne _ _ (by omega), zpi_ne _ _ (by omega), zpi_ne _ _ (by omega)]; exact hh.1
      · rw [zpi_ne _ _ (by omega), zpi_ne _ _ (by omega), zpi_ne _ _ (by omega)]; exact hh.2.1
      · rw [zpi_ne _ _ (by omega), zpi_ne _ _ (by omega), zpi_ne _ _ (by omega)]; exact hh.2.2.1
      · rw [zpi_ne _ _ (by omega), zpi_ne _ _ (by omega), zpi_ne _ _ (by omega)]; exact hh.2.2.2.1
      · rw [zpi_ne _ _ (by omega), zpi_ne _ _ (by omega), zpi_ne _ _ (by omega)]; exact hh.2.2.2.2
  · intro f k hk ih τ hF hall
    have q := hp.f (j := τ.1) (fun a k h1 h2 => hF.2 a k (by omega))
    obtain ⟨r1, r2, r3, r4, r5⟩ := q.2.2.2 k hk
    rw [f_X6_copyFrom_2, q.1, hF.1, x1, y1, c1, d1, nI_clamp (by omega), r1]
    refine zH_ck x0 (zH_f (nI_ge hk (by omega)) (zH_ck (zok_p (by omega) (by decide)) (zH_ck (zok_p (by omega) (by decide)) (zH_lt ?_))))
    rw [zpi_2, hF.1, x2, y2, c2, d2, zpi_ne _ _ (by omega), r2]
    refine zH_ck (zok_p (by omega) (by decide)) (zH_ck (zok_p (by omega) (by decide)) (zH_lt ?_))
    rw [zpi_2, zpi_2, hF.1, x3, y3, c3, d3, zpi_ne _ _ (by omega), zpi_ne _ _ (by omega), r3]
    refine zH_ck (zok_p (by omega) (by decide)) (zH_ck (zok_p (by omega) (by decide)) (zH_lt ?_))
    rw [zpi_2, zpi_2, zpi_2, hF.1, x4, y4, c4, d4, zpi_ne _ _ (by omega), zpi_ne _ _ (by omega), zpi_ne _ _ (by omega), r4]
    refine zH_ck (zok_p (by omega) (by decide)) (zH_ck (zok_p (by omega) (by decide)) (zH_lt ?_))
    rw [zpi_2, zpi_2, zpi_2, zpi_2, hF.1, x5, y5, c5, d5, zpi_ne _ _ (by omega), zpi_ne _ _ (by omega), zpi_ne _ _ (by omega), zpi_ne _ _ (by omega), r5]
    refine zH_ck (zok_p (by omega) (by decide)) (zH_ck (zok_p (by omega) (by decide)) (zH_lt (zH_lt ?_)))
    rw [nI_1]
    refine ih _ (((((hF.pi _ (by omega)).pi _ (by omega)).pi _ (by omega)).pi _ (by omega)).pi _ (by omega)) (fun j hj => ?_)
    by_cases e : j = k
    · subst e
      refine ⟨?_, ?_, ?_, ?_, ?_⟩
      · rw [zpi_ne _ _ (by omega), zpi_ne _ _ (by omega), zpi_ne _ _ (by omega), zpi_ne _ _ (by omega), zpi_eq]
      · rw [zpi_ne _ _ (by omega), zpi_ne _ _ (by omega), zpi_ne _ _ (by omega), zpi_eq]
      · rw [zpi_ne _ _ (by omega), zpi_ne _ _ (by omega), zpi_eq]
      · rw [zpi_ne _ _ (by omega), zpi_eq]
      · rw [zpi_eq]
    · have hh := hall j (by omega)
      refine ⟨?_, ?_, ?_, ?_, ?_⟩
      · rw [zpi_ne _ _ (by omega), zpi_ne _ _ (by omega), zpi_ne _ _ (by omega), zpi_ne _ _ (by omega), zpi_ne _ _ (by omega)]; exact hh.1
      · rw [zpi_ne _ _ (by omega), zpi_ne _ _ (by omega), zpi_ne _ _ (by omega), zpi_ne _ _ (by omega), zpi_ne _ _ (by omega)]; exact hh.2.1
      · rw [zpi_ne _ _ (by omega), zpi_ne _ _ (by omega), zpi_ne _ _ (by omega), zpi_ne _ _ (by omega), zpi_ne _ _ (by omega)]; exact hh.2.2.1
      · rw [zpi_ne _ _ (by omega), zpi_ne _ _ (by omega), zpi_ne _ _ (by omega), zpi_ne _ _ (by omega), zpi_ne _ _ (by omega)]; exact hh.2.2.2.1
      · rw [zpi_ne _ _ (by omega), zpi_ne _ _ (by omega), zpi_ne _ _ (by omega), zpi_ne _ _ (by omega), zpi_ne _ _ (by omega)]; exact hh.2.2.2.2
/-- 16 are kept -/
def sh (n : Nat) : Nat := if n < 16 then 0 else 1
def nn (n : Nat) : Nat := if n < 16 then n + 1 else 16
theorem nn_sh {n : Nat} (hn : n ≤ 16) : 1 ≤ nn n ∧ nn n ≤ 16 ∧ nn n + sh n = n + 1 := by
  unfold nn sh
  by_cases q : n < 16
  · rw [if_pos q, if_pos q]; omega
  · rw [if_neg q, if_neg q]; omega
theorem C_keep {n kd w : Nat} {σ : zS} (h2 : σ.1 57 2 = nI n) (hn : n ≤ 16) (r0 : σ.2 57 0 = 58) (r1 : σ.2 57 1 = 59) : zH (f_X7_keep 57 (nI kd) (nI w) σ) (fun _ σ' => fr (fun a _ => a = 57 ∨ a = 58 ∨ a = 59) σ σ' ∧ σ'.1 57 2 = nI (nn n) ∧ (∀ q, q + 1 < nn n → σ'.1 58 q = σ.1 58 (q + sh n) ∧ σ'.1 59 q = σ.1 59 (q + sh n)) ∧ σ'.1 58 (nn n - 1) = nI kd ∧ σ'.1 59 (nn n - 1) = nI w) := by
  have k58 : WC.2 58 = (100, 16) := rfl
  have k59 : WC.2 59 = (100, 16) := rfl
  have fin : ∀ (τ : zS) (c : Nat), fr (fun a _ => a = 57 ∨ a = 58 ∨ a = 59) σ τ → τ.1 57 2 = nI c → c < 16 → zH (f_X7_keep_57 57 (nI kd) (nI w) τ) (fun _ σ' => fr (fun a _ => a = 57 ∨ a = 58 ∨ a = 59) σ σ' ∧ σ'.1 57 2 = nI (c + 1) ∧ (∀ q, q < c → σ'.1 58 q = τ.1 58 q ∧ σ'.1 59 q = τ.1 59 q) ∧ σ'.1 58 c = nI kd ∧ σ'.1 59 c = nI w) := by
    intro τ c hF h2 hc
    unfold f_X7_keep_57
    rw [hF.1, r0, h2, k58, nI_clamp (by omega)]
    refine zH_ck (zok_p hc (by decide)) (zH_lt ?_)
    rw [zpi_2, hF.1, r1, k59, zpi_ne _ _ (by omega), h2, nI_clamp (by omega)]
    refine zH_ck (zok_p hc (by decide)) (zH_lt (zH_lt (zH_ok ?_)))
    rw [zpi_ne _ _ (by omega), zpi_ne _ _ (by omega), h2, nI_1]
    refine ⟨((hF.pi _ (by omega)).pi _ (by omega)).pi _ (by omega), zpi_eq _ _ _ _, fun q hq => ⟨?_, ?_⟩, ?_, ?_⟩
    · rw [zpi_ne _ _ (by omega), zpi_ne _ _ (by omega), zpi_ne _ _ (by omega)]
    · rw [zpi_ne _ _ (by omega), zpi_ne _ _ (by omega), zpi_ne _ _ (by omega)]
    · rw [zpi_ne _ _ (by omega), zpi_ne _ _ (by omega), zpi_eq]
    · rw [zpi_ne _ _ (by omega), zpi_eq]
  unfold f_X7_keep
  refine zH_ck (by rfl) ?_
  rw [h2]
  by_cases q : n < 16
  · refine zH_t (show nI n < (16 : Int32) from nI_lt (b := 16) q (by decide)) (zH_mono (fin σ n (fr_r _ σ) h2 q) (fun _ σ' h => ?_))
    have e1 : nn n = n + 1 := if_pos q
    have e2 : sh n = 0 := if_pos q
    rw [e1, e2]
    exact ⟨h.1, h.2.1, fun q hq => h.2.2.1 q (by omega), h.2.2.2⟩
  · have hn16 : n = 16 := by omega
    subst hn16
    refine zH_f (by decide) (zH_lt ?_)
    suffices key : ∀ k, k ≤ 16 → ∀ f, 16 - k < f → 1 ≤ k → ∀ τ, fr (fun a _ => a = 57 ∨ a = 58 ∨ a = 59) σ τ → (∀ q, q + 1 < k → τ.1 58 q = σ.1 58 (q + 1) ∧ τ.1 59 q = σ.1 59 (q + 1)) → (∀ q, k ≤ q + 1 → τ.1 58 q = σ.1 58 q ∧ τ.1 59 q = σ.1 59 q) → zH (f_X7_keep_11 57 f (nI kd) (nI w) (nI k) τ) (fun _ σ' => fr (fun a _ => a = 57 ∨ a = 58 ∨ a = 59) σ σ' ∧ σ'.1 57 2 = nI (nn 16) ∧ (∀ q, q + 1 < nn 16 → σ'.1 58 q = σ.1 58 (q + sh 16) ∧ σ'.1 59 q = σ.1 59 (q + sh 16)) ∧ σ'.1 58 (nn 16 - 1) = nI kd ∧ σ'.1 59 (nn 16 - 1) = nI w) from
      key 1 (by omega) FU (by unfold FU; omega) (Nat.le_refl _) σ (fr_r _ σ) (fun q hq => by omega) (fun q _ => ⟨rfl, rfl⟩)
    refine zup (P := fun f k => 1 ≤ k → ∀ τ, fr (fun a _ => a = 57 ∨ a = 58 ∨ a = 59) σ τ → (∀ q, q + 1 < k → τ.1 58 q = σ.1 58 (q + 1) ∧ τ.1 59 q = σ.1 59 (q + 1)) → (∀ q, k ≤ q + 1 → τ.1 58 q = σ.1 58 q ∧ τ.1 59 q = σ.1 59 q) → zH (f_X7_keep_11 57 f (nI kd) (nI w) (nI k) τ) _) 16 ?_ ?_
    · intro f _ τ hF g1 g2
      rw [f_X7_keep_11]
      refine zH_t (by decide) (zH_lt (zH_mono (fin _ 15 (hF.pi _ (by omega)) (zpi_eq _ _ _ _) (by omega)) (fun _ σ' h => ?_)))
      refine ⟨h.1, h.2.1, fun q hq => ?_, h.2.2.2⟩
      have hq : q + 1 < 16 := hq
      have h5 := h.2.2.1 q (by omega)
      rw [h5.1, h5.2, zpi_ne _ _ (by omega), zpi_ne _ _ (by omega)]
      exact g1 q hq
    · intro f k hk ih h1 τ hF g1 g2
      have e1 : nI k - 1 = nI (k - 1) := nI_sub (b := 1) h1
      rw [f_X7_keep_11, hF.1, r0, k58, e1, nI_clamp (n := k) (by omega), nI_clamp (n := k - 1) (by omega)]
      refine zH_f (show ¬ (16 : Int32) ≤ nI k from nI_ge (b := 16) hk (by decide)) (zH_ck (zok_p hk (by decide)) (zH_ck (zok_p (by omega) (by decide)) (zH_lt ?_)))
      rw [zpi_2, hF.1, r1, k59, zpi_ne _ _ (by omega)]
      refine zH_ck (zok_p hk (by decide)) (zH_ck (zok_p (by omega) (by decide)) (zH_lt (zH_lt ?_)))
      rw [nI_1]
      refine ih (by omega) _ ((hF.pi _ (by omega)).pi _ (by omega)) (fun q hq => ?_) (fun q hq => ?_)
      · by_cases z : q = k - 1
        · subst z
          have h5 := g2 k (by omega)
          refine ⟨?_, ?_⟩
          · rw [zpi_ne _ _ (by omega), zpi_eq, h5.1, show k - 1 + 1 = k by omega]
          · rw [zpi_eq, h5.2, show k - 1 + 1 = k by omega]
        · have h5 := g1 q (by omega)
          refine ⟨?_, ?_⟩
          · rw [zpi_ne _ _ (by omega), zpi_ne _ _ (by omega)]; exact h5.1
          · rw [zpi_ne _ _ (by omega), zpi_ne _ _ (by omega)]; exact h5.2
      · have h5 := g2 q (by omega)
        refine ⟨?_, ?_⟩
        · rw [zpi_ne _ _ (by omega), zpi_ne _ _ (by omega)]; exact h5.1
        · rw [zpi_ne _ _ (by omega), zpi_ne _ _ (by omega)]; exact h5.2
theorem fx50 (k : Nat) : (50 : Int32) * nI k = nI (50 * k) := by show nI 50 * nI k = _; rw [nI_mul]
theorem fxp50 (k : Nat) : nI k + (50 : Int32) = nI (k + 50) := by show nI k + nI 50 = _; rw [nI_add]
def Pn (a k : Nat) : Prop := a = 8 ∨ (a = 0 ∧ k = 22)
theorem M_note {n : Nat} {σ : zS} (hR : σ.2 = RM) (h22 : σ.1 0 22 = nI n) (hn : n ≤ 16) : zH (f_X11_note 0 σ) (fun _ σ' => fr Pn σ σ' ∧ σ'.1 0 22 = nI (nn n) ∧ (∀ q, q + 1 < nn n → ∀ k, k < 50 → σ'.1 8 (50 * q + k) = σ.1 8 (50 * (q + sh n) + k)) ∧ ∀ k, k < 50 → σ'.1 8 (50 * (nn n - 1) + k) = σ.1 7 k) := by
  have fin : ∀ (τ : zS) (c : Nat), fr Pn σ τ → τ.1 0 22 = nI c → c < 16 → zH (f_X11_note_49 0 τ) (fun _ σ' => fr Pn σ σ' ∧ σ'.1 0 22 = nI (c + 1) ∧ (∀ x, x < 50 * c → σ'.1 8 x = τ.1 8 x) ∧ ∀ k, k < 50 → σ'.1 8 (50 * c + k) = σ.1 7 k) := by
    intro τ c hF h2 hc
    unfold f_X11_note_49
    have hRt : τ.2 = RM := hF.1.trans hR
    rw [mr19 hRt, mr20 hRt, h2, fx50]
    refine zH_call (M_copy (a := 7) (b := 8) (x := 0) (y := 50 * c) (n := 50) w7 w8 (by decide) (by omega) (by omega) (by omega)) ?_
    rintro - υ ⟨hu, hcp⟩
    refine zH_lt (zH_ok ?_)
    rw [hu.2 0 22 (by omega), h2, nI_1]
    refine ⟨(hF.tr (hu.mo (fun a k z => Or.inl z.1))).pi _ (Or.inr ⟨rfl, rfl⟩), zpi_eq _ _ _ _, fun x hx => ?_, fun k hk => ?_⟩
    · rw [zpi_ne _ _ (by omega), hu.2 8 x (by omega)]
    · rw [zpi_ne _ _ (by omega), hcp k hk, Nat.zero_add, hF.2 7 k (by unfold Pn; omega)]
  unfold f_X11_note
  refine zH_ck w0 ?_
  rw [h22]
  by_cases q : n < 16
  · refine zH_f (fun z => by have := (nI_eq (b := 16) (by omega) (by decide)).mp z; omega) (zH_mono (fin σ n (fr_r _ σ) h22 q) (fun _ σ' h => ?_))
    have e1 : nn n = n + 1 := if_pos q
    have e2 : sh n = 0 := if_pos q
    rw [e1, e2]
    exact ⟨h.1, h.2.1, fun q hq k hk => h.2.2.1 _ (by omega), h.2.2.2⟩
  · have hn16 : n = 16 := by omega
    subst hn16
    refine zH_t (by rfl) (zH_lt ?_)
    suffices key : ∀ k, k ≤ 750 → ∀ f, 750 - k < f → ∀ τ, fr Pn σ τ → τ.1 0 22 = nI 16 → (∀ x, x < k → τ.1 8 x = σ.1 8 (x + 50)) → (∀ x, k ≤ x → τ.1 8 x = σ.1 8 x) → zH (f_X11_note_11 0 f (nI k) τ) (fun _ σ' => fr Pn σ σ' ∧ σ'.1 0 22 = nI (nn 16) ∧ (∀ q, q + 1 < nn 16 → ∀ k, k < 50 → σ'.1 8 (50 * q + k) = σ.1 8 (50 * (q + sh 16) + k)) ∧ ∀ k, k < 50 → σ'.1 8 (50 * (nn 16 - 1) + k) = σ.1 7 k) from
      key 0 (Nat.zero_le _) FU (by unfold FU; omega) σ (fr_r _ σ) h22 (fun x hx => absurd hx (Nat.not_lt_zero x)) (fun x _ => rfl)
    refine zup (P := fun f k => ∀ τ, fr Pn σ τ → τ.1 0 22 = nI 16 → (∀ x, x < k → τ.1 8 x = σ.1 8 (x + 50)) → (∀ x, k ≤ x → τ.1 8 x = σ.1 8 x) → zH (f_X11_note_11 0 f (nI k) τ) _) 750 ?_ ?_
    · intro f τ hF h2 g1 g2
      rw [f_X11_note_11, h2]
      refine zH_t (by decide) (zH_lt (zH_mono (fin _ 15 (hF.pi _ (Or.inr ⟨rfl, rfl⟩)) (zpi_eq _ _ _ _) (by omega)) (fun _ σ' h => ?_)))
      refine ⟨h.1, h.2.1, fun q hq k hk => ?_, h.2.2.2⟩
      have hq : q + 1 < 16 := hq
      rw [h.2.2.1 _ (by omega), zpi_ne _ _ (by omega), g1 _ (by omega)]
      rw [show 50 * q + k + 50 = 50 * (q + sh 16) + k by show _ = 50 * (q + 1) + k; omega]
    · intro f k hk ih τ hF h2 g1 g2
      have hRt : τ.2 = RM := hF.1.trans hR
      rw [f_X11_note_11, mr20 hRt, w8, fxp50, nI_clamp (n := k + 50) (by omega), nI_clamp (n := k) (by omega)]
      refine zH_f (show ¬ (750 : Int32) ≤ nI k from nI_ge (b := 750) hk (by decide)) (zH_ck (zok_p (by omega) (by decide)) (zH_ck (zok_p (by omega) (by decide)) (zH_lt (zH_lt ?_))))
      rw [nI_1]
      refine ih _ (hF.pi _ (Or.inl rfl)) (by rw [zpi_ne _ _ (by omega)]; exact h2) (fun x hx => ?_) (fun x hx => ?_)
      · by_cases z : x = k
        · subst z
          rw [zpi_eq]
          exact g2 _ (by omega)
        · rw [zpi_ne _ _ (by omega)]
          exact g1 x (by omega)
      · rw [zpi_ne _ _ (by omega)]
        exact g2 x (by omega)
/-- the past, an act later -/
theorem Past_act {A B B' : Nat → Nat} {n kd w : Nat} {i j i' j' : Nat → Nat → Int32} (h : Past A B n i j) (hB : vP A B) (ha : act kd w B' B)
    (c1 : i' 57 2 = nI (nn n)) (c2 : ∀ q, q + 1 < nn n → i' 58 q = i 58 (q + sh n) ∧ i' 59 q = i 59 (q + sh n)) (c3 : i' 58 (nn n - 1) = nI kd) (c4 : i' 59 (nn n - 1) = nI w)
    (m1 : j' 0 22 = nI (nn n)) (m2 : ∀ q, q + 1 < nn n → ∀ k, k < 50 → j' 8 (50 * q + k) = j 8 (50 * (q + sh n) + k)) (m3 : ∀ k, k < 50 → j' 8 (50 * (nn n - 1) + k) = nI (B k)) : Past A B' (nn n) i' j' := by
  obtain ⟨u1, u2, u3, U, u4, u5⟩ := h
  obtain ⟨s1, s2, s3⟩ := nn_sh u1
  refine ⟨s2, c1, m1, fun q => if q = nn n then B' else U (q + sh n), if_pos rfl, fun q hq => ?_⟩
  have e1 : (if q = nn n then B' else U (q + sh n)) = U (q + sh n) := if_neg (by omega)
  show vP A (if q = nn n then B' else U (q + sh n)) ∧ (∀ k, k < 50 → j' 8 (50 * q + k) = nI ((if q = nn n then B' else U (q + sh n)) k)) ∧ ∃ kd w, i' 58 q = nI kd ∧ i' 59 q = nI w ∧ act kd w (if q + 1 = nn n then B' else U (q + 1 + sh n)) (if q = nn n then B' else U (q + sh n))
  rw [e1]
  by_cases z : q + 1 = nn n
  · have e2 : q + sh n = n := by omega
    have e3 : nn n - 1 = q := by omega
    rw [e3] at c3 c4 m3
    rw [if_pos z, e2, u4]
    exact ⟨hB, m3, kd, w, c3, c4, ha⟩
  · obtain ⟨v1, v2, kd', w', v3, v4, v5⟩ := u5 (q + sh n) (by omega)
    rw [if_neg z, show q + 1 + sh n = q + sh n + 1 by omega]
    refine ⟨v1, fun k hk => ?_, kd', w', ?_, ?_, v5⟩
    · rw [m2 q (by omega) k hk]; exact v2 k hk
    · rw [(c2 q (by omega)).1]; exact v3
    · rw [(c2 q (by omega)).2]; exact v4
def PA (a k : Nat) : Prop := (32 ≤ a ∧ a ≤ 37) ∨ (57 ≤ a ∧ a ≤ 59) ∨ (a = 0 ∧ k = 10)
def PB (a k : Nat) : Prop := a = 7 ∨ a = 8 ∨ (a = 0 ∧ (k = 0 ∨ k = 11 ∨ k = 22))
/-- the relation behind an act that leaves images as they are -/
theorem actR {b : Bool} {A B T B' : Nat → Nat} {σc σm σc' σm' : zS} {n' : Nat} (hA : vA A) (hB' : vP A B') (hT : vP A T) (hc : cU b A B T σc) (hm : mU A B T D0 σm) (hr : Rest A B σc.1 σm.1) (hf : Fil A T σc.1) (h1 : A 1 ≠ 0)
    (fc : fr PA σc σc') (fm : fr PB σm σm') (p' : pI 32 B' σc'.1) (r7 : ∀ k, k < 50 → σm'.1 7 k = nI (B' k)) (t1 : σc'.1 0 10 = 0) (t2 : σm'.1 0 11 = 0) (hp : Past A B' n' σc'.1 σm'.1) : Rel σc' σm' := by
  have hv := Lc_v b
  obtain ⟨g1, ⟨n, tp, a1, a2, a3, a4⟩, ni, nu, ⟨m1, m2, m3, M, m4⟩, -, z⟩ := hr
  refine ⟨b, A, B', T, hA, hB', hT, ⟨fc.1.trans hc.1, hc.2.1.f (fun a k _ _ => fc.2 a k (by unfold PA; omega)), p', hc.2.2.2.1.f (fun a k _ _ => fc.2 a k (by unfold PA; omega)), hc.2.2.2.2.f (fun a k _ _ => fc.2 a k (by unfold PA; omega))⟩, ⟨fm.1.trans hm.1, fun k hk => (fm.2 3 k (by unfold PB; omega)).trans (hm.2.1 k hk), r7, fun k hk => (fm.2 5 k (by unfold PB; omega)).trans (hm.2.2.2.1 k hk), (fm.2 0 24 (by unfold PB; omega)).trans hm.2.2.2.2.1, (fm.2 0 14 (by unfold PB; omega)).trans hm.2.2.2.2.2⟩, ⟨?_, ⟨n, tp, a1, ?_, ?_, fun k hk => ⟨(a4 k hk).1, ?_, ?_⟩⟩, ni, n', ⟨m1, ?_, ?_, M, fun q hq => ⟨(m4 q hq).1, (m4 q hq).2.1.f (fun a k _ _ => fc.2 a k (by unfold PA; omega)), fun k hk => ?_⟩⟩, hp, fun e => absurd e h1⟩, hf.f (fun a k _ _ => fc.2 a k (by unfold PA; omega)), t1.trans t2.symm, fun e => ?_⟩
  · rw [fc.2 0 11 (by unfold PA; omega), fm.2 0 9 (by unfold PB; omega)]; exact g1
  · rw [fc.2 2 1 (by unfold PA; omega)]; exact a2
  · rw [fm.2 0 2 (by unfold PB; omega)]; exact a3
  · rw [fc.2 3 k (by unfold PA; omega)]; exact (a4 k hk).2.1
  · rw [fm.2 1 k (by unfold PB; omega)]; exact (a4 k hk).2.2
  · rw [fc.2 0 9 (by unfold PA; omega)]; exact m2
  · rw [fm.2 0 23 (by unfold PB; omega)]; exact m3
  · rw [fm.2 9 _ (by unfold PB; omega)]; exact (m4 q hq).2.2 k hk
  · rw [t1] at e; exact absurd e (by decide)
