/-! outranks, ring, ringAt, top, free -/
section G8
variable {b : Bool} {A B T : Nat → Nat} {D : Nat → Bool} {σ : zS}
theorem QM_ansP {ρ : Type} {P : Nat → Nat → Prop} (h1 : ∀ a k, P a k → Pq a k) (h2 : ¬ P 0 11) {f : Option (ρ × zS)} {v : ρ} (h : zH f (fun r σ' => r = v ∧ fr P (gd σ) σ')) : QM f σ v 0 := by
  obtain ⟨r, σ', e, h3, h4⟩ := h
  exact ⟨r, σ', e, h3, (gd_f σ).tr (h4.mo h1), (h4.2 0 11 h2).trans (gd_11 σ)⟩
theorem cU.r2 (h : cU b A B T σ) : σ.2 0 2 = 30 := by rw [h.1]; simp only [RCs]
theorem M_hasRing (hA : vA A) (h : mU A B T D σ) : zH (f_X11_hasRing 0 σ) (fun x σ' => x = bI (an (fun p => (rs1 (outr A D) (A 1) p).isSome) (A 1)) ∧ fr Pr σ σ') := by
  have hA1 := hA.1
  unfold f_X11_hasRing
  refine zH_ck w0 (zH_lt ?_)
  suffices key : ∀ k, k ≤ A 1 → ∀ f, A 1 - k < f → ∀ τ, fr Pr σ τ → (∀ j, j < k → (rs1 (outr A D) (A 1) j).isSome = false) → zH (f_X11_hasRing_2 0 f (nI k) τ) (fun x σ' => x = bI (an (fun p => (rs1 (outr A D) (A 1) p).isSome) (A 1)) ∧ fr Pr σ σ') from key 0 (Nat.zero_le _) FU (by unfold FU; omega) σ (fr_r Pr σ) (fun j hj => absurd hj (Nat.not_lt_zero j))
  refine zup (P := fun f k => ∀ τ, fr Pr σ τ → (∀ j, j < k → (rs1 (outr A D) (A 1) j).isSome = false) → zH (f_X11_hasRing_2 0 f (nI k) τ) _) (A 1) ?_ ?_
  · intro f τ hF hall
    have ht := h.f (hF.mo Pr_Pq)
    rw [f_X11_hasRing_2, mr15 ht.1, w3, cl1, ht.2.1 1 (by omega), an_false.mpr hall]
    exact zH_ck (by decide) (zH_t (Int32.le_refl _) (zH_ck (by decide) (zH_ok ⟨rfl, hF⟩)))
  · intro f k hk ih τ hF hall
    have ht := h.f (hF.mo Pr_Pq)
    rw [f_X11_hasRing_2, mr15 ht.1, w3, cl1, ht.2.1 1 (by omega)]
    refine zH_ck (by decide) (zH_f (nI_ge hk (by omega)) (zH_call (M_seekRing hA ht hk) ?_))
    rintro x υ ⟨rfl, hu, -⟩
    have hu := hF.tr hu
    cases e : (rs1 (outr A D) (A 1) k).isSome
    · refine zH_t rfl (zH_lt ?_)
      rw [nI_1]
      exact ih υ hu (fun j hj => by
        by_cases z : j = k
        · subst z; exact e
        · exact hall j (by omega))
    · rw [an_iff.mpr ⟨k, hk, e⟩]
      exact zH_f (by decide) (zH_ck (by decide) (zH_ok ⟨rfl, hu⟩))
/-- the first of those with the most -/
def tpb (c : Nat → Nat) : Nat → Nat
  | 0 => 0
  | n + 1 => if c (tpb c n) < c n then n else tpb c n
theorem tpb_1 (c : Nat → Nat) : tpb c 1 = 0 := by
  show (if c 0 < c 0 then 0 else 0) = 0
  split <;> rfl
theorem tpb_lt (c : Nat → Nat) : ∀ n, 1 ≤ n → tpb c n < n
  | 0, h => by omega
  | n + 1, _ => by
    rw [tpb]
    by_cases z : n = 0
    · subst z
      split
      · omega
      · show 0 < 1; omega
    · have := tpb_lt c n (by omega)
      split <;> omega
theorem C_belowCt (h : cU b A B T σ) (hA : vA A) {p : Nat} (hp : p < A 1) : f_J6_bitCount WC (σ.1 (28 + 1) p) σ = some (nI (ct (outr A D0 p) (A 1)), σ) := by
  have hA1 := hA.1
  rw [h.o.2.2 p hp, ← mk_w (by omega), bc_m WC _ (by omega)]
end G8
theorem O_outranks : zO_outranks Rel := by
  intro σc σm x y hR
  refine hR.q (fun b A B T hA hB hT hc hm => ?_)
  have hA1 := hA.1
  have hg := hm.g
  cases hx : inR x (A 1)
  · refine ⟨-1, 1, by decide, QC_refuse ?_, QM_refuse ?_⟩
    · unfold f_X10_outranks; rw [zck_t v0, C_isPlace hc hA, hx, zbd_s, zbr_t (by rfl)]; rfl
    · unfold f_X11_outranks; rw [zck_t w0, M_good, zbd_s, M_isPlace hg hA, hx, zbd_s, zbr_t (by rfl)]; rfl
  · obtain ⟨p, hp, rfl⟩ := inR_t hx
    cases hy : inR y (A 1)
    · refine ⟨-1, 1, by decide, QC_refuse ?_, QM_refuse ?_⟩
      · unfold f_X10_outranks; rw [zck_t v0, C_isPlace hc hA, hx, zbd_s, zbr_f (by decide), C_isPlace hc hA, hy, zbd_s, zbr_t (by rfl)]; rfl
      · unfold f_X11_outranks; rw [zck_t w0, M_good, zbd_s, M_isPlace hg hA, hx, zbd_s, zbr_f (by decide), M_isPlace hg hA, hy, zbd_s, zbr_t (by rfl)]; rfl
    · obtain ⟨q, hq, rfl⟩ := inR_t hy
      by_cases e : p = q
      · subst e
        refine ⟨-1, 1, by decide, QC_refuse ?_, QM_refuse ?_⟩
        · unfold f_X10_outranks; rw [zck_t v0, C_isPlace hc hA, hx, zbd_s, zbr_f (by decide), C_isPlace hc hA, hx, zbd_s, zbr_f (by decide), zbr_t (by rfl)]; rfl
        · unfold f_X11_outranks; rw [zck_t w0, M_good, zbd_s, M_isPlace hg hA, hx, zbd_s, zbr_f (by decide), M_isPlace hg hA, hx, zbd_s, zbr_f (by decide), zbr_t (by rfl)]; rfl
      · refine ⟨bI (outr A D0 p q), 0, by decide, QC_grant ?_, QM_pure ?_⟩
        · unfold f_X10_outranks
          rw [zck_t v0, C_isPlace hc hA, hx, zbd_s, zbr_f (by decide), C_isPlace hc hA, hy, zbd_s, zbr_f (by decide), zbr_f (fun z => e ((nI_eq (by omega) (by omega)).mp z)), hc.r1, zck_t v28, hc.o.1.2.1, hc.o.1.2.2, zck_t (zok_p (by omega) (by decide)), nI_clamp (by omega), hc.o.bit hA1.2.1 hp hq, C_grant, zbd_s]
        · unfold f_X11_outranks
          rw [zck_t w0, M_good, zbd_s, M_isPlace hg hA, hx, zbd_s, zbr_f (by decide), M_isPlace hg hA, hy, zbd_s, zbr_f (by decide), zbr_f (fun z => e ((nI_eq (by omega) (by omega)).mp z)), M_doesOutrank hg hA hp hq, zbd_s]
          cases outr A D0 p q <;> rfl
theorem O_ring : zO_ring Rel := by
  intro σc σm x hR
  refine hR.q (fun b A B T hA hB hT hc hm => ?_)
  have hA1 := hA.1
  have hg := hm.g
  cases hx : inR x (A 1)
  · refine ⟨-1, 1, by decide, QC_refuse ?_, QM_refuse ?_⟩
    · unfold f_X10_ring; rw [zck_t v0, C_isPlace hc hA, hx, zbd_s, zbr_t (by rfl)]; rfl
    · unfold f_X11_ring; rw [zck_t w0, M_good, zbd_s, M_isPlace hg hA, hx, zbd_s, zbr_t (by rfl)]; rfl
  · obtain ⟨p, hp, rfl⟩ := inR_t hx
    refine ⟨if (rs1 (outr A D0) (A 1) p).isSome then 3 else -2, 0, by decide, QC_grant ?_, QM_ansP Pr_Pq (by unfold Pr; omega) ?_⟩
    · unfold f_X10_ring
      rw [zck_t v0, C_isPlace hc hA, hx, zbd_s, zbr_f (by decide), hc.r1, zck_t v28, C_second hc.o hA1.2.1 hp, zbd_s]
      cases e : rs1 (outr A D0) (A 1) p with
      | none => rw [zbr_t (by rfl)]; rfl
      | some q =>
        have hq := (fi_iff.mp e).1
        rw [zbr_f (by exact nI_m1 (by omega))]; rfl
    · unfold f_X11_ring
      refine zH_ck w0 (zH_eq (M_good _) (zH_eq (M_isPlace hg hA _) ?_))
      rw [hx]
      refine zH_f (by decide) (zH_call (M_seekRing hA hg hp) ?_)
      rintro y τ ⟨rfl, hF, h3⟩
      cases e : rs1 (outr A D0) (A 1) p with
      | none => exact zH_t rfl (zH_ok ⟨rfl, hF⟩)
      | some q =>
        have a2 : (outr A D0 p q && (rs2 (outr A D0) (A 1) p q).isSome) = true := (fi_iff.mp e).2.1
        rw [Bool.and_eq_true] at a2
        cases e2 : rs2 (outr A D0) (A 1) p q with
        | none => rw [e2] at a2; cases a2.2
        | some r =>
          refine zH_f (show ¬ bI true = 0 by decide) (zH_ok ⟨?_, hF⟩)
          rw [(h3 q r e e2).1]
          rfl
theorem O_ringAt : zO_ringAt Rel := by
  intro σc σm x y hR
  refine hR.q (fun b A B T hA hB hT hc hm => ?_)
  have hA1 := hA.1
  have hg := hm.g
  cases hx : inR x (A 1)
  · refine ⟨-1, 1, by decide, QC_refuse ?_, QM_refuse ?_⟩
    · unfold f_X10_ringAt; rw [zck_t v0, C_isPlace hc hA, hx, zbd_s, zbr_t (by rfl)]; rfl
    · unfold f_X11_ringAt; rw [zck_t w0, M_good, zbd_s, M_isPlace hg hA, hx, zbd_s, zbr_t (by rfl)]; rfl
  · obtain ⟨p, hp, rfl⟩ := inR_t hx
    have ref : ∀ τ, fr Pr (gd σm) τ → zH (f_X11_ringAt_34 0 τ) (fun r σ' => r = -1 ∧ fr Pq σm σ' ∧ σ'.1 0 11 = 1) := by
      intro τ hF
      unfold f_X11_ringAt_34
      refine zH_eq (M_no _ _) (zH_ok ⟨rfl, ((gd_f σm).tr (hF.mo Pr_Pq)).pi _ (by unfold Pq; omega), zpi_eq _ _ _ _⟩)
    cases e : rs1 (outr A D0) (A 1) p with
    | none =>
      refine ⟨-1, 1, by decide, QC_refuse ?_, ?_⟩
      · unfold f_X10_ringAt
        rw [zck_t v0, C_isPlace hc hA, hx, zbd_s, zbr_f (by decide), hc.r1, zck_t v28, C_second hc.o hA1.2.1 hp, zbd_s, e, zlt_e]
        by_cases q : y < 0
        · rw [zbr_t q]; rfl
        · rw [zbr_f q]
          by_cases q3 : y < 3
          · rw [zbr_t q3, zbr_t (by rfl)]; rfl
          · rw [zbr_f q3]; rfl
      · unfold QM f_X11_ringAt
        refine zH_ck w0 (zH_eq (M_good _) (zH_eq (M_isPlace hg hA _) ?_))
        rw [hx]
        refine zH_f (by decide) (zH_call (M_seekRing hA hg hp) ?_)
        rintro z τ ⟨rfl, hF, h3⟩
        rw [e]
        exact zH_t rfl (ref τ hF)
    | some q =>
      have hq := (fi_iff.mp e).1
      have a2 : (outr A D0 p q && (rs2 (outr A D0) (A 1) p q).isSome) = true := (fi_iff.mp e).2.1
      rw [Bool.and_eq_true] at a2
      cases e2 : rs2 (outr A D0) (A 1) p q with
      | none => rw [e2] at a2; cases a2.2
      | some r =>
        have hr := (fi_iff.mp e2).1
        cases hy : inR y 3
        · refine ⟨-1, 1, by decide, QC_refuse ?_, ?_⟩
          · unfold f_X10_ringAt
            rw [zck_t v0, C_isPlace hc hA, hx, zbd_s, zbr_f (by decide)]
            by_cases q : y < 0
            · rw [zbr_t q]; rfl
            · obtain ⟨j, hj, rfl⟩ := nI_of q
              rw [inR_n hj] at hy
              have hy := of_decide_eq_false hy
              rw [zbr_f q, zbr_f (show ¬ nI j < (3 : Int32) from nI_nlt (b := 3) (by omega) hj)]; rfl
          · unfold QM f_X11_ringAt
            refine zH_ck w0 (zH_eq (M_good _) (zH_eq (M_isPlace hg hA _) ?_))
            rw [hx]
            refine zH_f (by decide) (zH_call (M_seekRing hA hg hp) ?_)
            rintro z τ ⟨rfl, hF, h3⟩
            rw [e, (h3 q r e e2).1, M_in0 _ (by decide), hy]
            exact zH_f (show ¬ bI true = 0 by decide) (zH_t rfl (ref τ hF))
        · obtain ⟨j, hj, rfl⟩ := inR_t hy
          refine ⟨nI (if j = 0 then p else if j = 1 then q else r), 0, by decide, QC_grant ?_, QM_ansP Pr_Pq (by unfold Pr; omega) ?_⟩
          · unfold f_X10_ringAt
            rw [zck_t v0, C_isPlace hc hA, hx, zbd_s, zbr_f (by decide), zbr_f (nI_pos (by omega)), zbr_t (show nI j < (3 : Int32) from nI_lt (b := 3) hj (by decide)), hc.r1, zck_t v28, C_second hc.o hA1.2.1 hp, zbd_s, e, zlt_e]
            show zbr (nI q = -1) _ _ = _
            rw [zbr_f (nI_m1 (by omega))]
            have : j = 0 ∨ j = 1 ∨ j = 2 := by omega
            rcases this with rfl | rfl | rfl
            · rw [zbr_t (by rfl)]; rfl
            · rw [zbr_f (by decide), zbr_t (by rfl)]; rfl
            · rw [zbr_f (by decide), zbr_f (by decide)]
              show zck (WC.2 (σc.2 0 1) = (5, 0)) (zbd (f_X5_thirdOfRing (σc.2 0 1) (nI p) (nI q) σc) _) = _
              rw [hc.r1, zck_t v28, C_third hc.o hA1.2.1 hp hq, zbd_s, e2]
              rfl
          · unfold f_X11_ringAt
            refine zH_ck w0 (zH_eq (M_good _) (zH_eq (M_isPlace hg hA _) ?_))
            rw [hx]
            refine zH_f (by decide) (zH_call (M_seekRing hA hg hp) ?_)
            rintro z τ ⟨rfl, hF, h3⟩
            obtain ⟨h3, h4, h5, h6⟩ := h3 q r e e2
            rw [e, h3, M_in0 _ (by decide), hy]
            refine zH_f (show ¬ bI true = 0 by decide) (zH_f (show ¬ bI true = 0 by decide) ?_)
            rw [mr34 (hF.1.trans hg.1), w16, nI_clamp (by omega)]
            refine zH_ck (zok_p (by omega) (by decide)) (zH_ok ⟨?_, hF⟩)
            have : j = 0 ∨ j = 1 ∨ j = 2 := by omega
            rcases this with rfl | rfl | rfl
            · exact h4
            · exact h5
            · exact h6
theorem O_top : zO_top Rel := by
  intro σc σm hR
  refine hR.q (fun b A B T hA hB hT hc hm => ?_)
  have hA1 := hA.1
  have hg := hm.g
  by_cases q : A 1 = 0
  · refine ⟨-1, 1, by decide, QC_refuse ?_, QM_refuse ?_⟩
    · unfold f_X10_top; rw [zck_t v0, C_noLetter hc hA, decide_eq_true q, zbd_s, zbr_f (by decide), C_refuse, zbd_s]
    · unfold f_X11_top; rw [zck_t w0, M_good, zbd_s, zbr_t ((M_hl hg).mpr q), M_no, zbd_s]
  · have cle : ∀ p, ct (outr A D0 p) (A 1) ≤ 6 := fun p => Nat.le_trans (ct_le _ _) (by omega)
    refine ⟨nI (tpb (fun p => ct (outr A D0 p) (A 1)) (A 1)), 0, by decide, QC_grant ?_, QM_pure ?_⟩
    · unfold f_X10_top
      rw [zck_t v0, C_noLetter hc hA, decide_eq_false q, zbd_s, zbr_t (by rfl), zlt_e, zlt_e]
      suffices key : ∀ k, k ≤ A 1 → ∀ f, A 1 - k < f → 1 ≤ k → f_X10_top_17 0 f (nI (tpb (fun p => ct (outr A D0 p) (A 1)) k)) (nI k) σc = some (nI (tpb (fun p => ct (outr A D0 p) (A 1)) (A 1)), zpi σc 0 10 0) by
        have := key 1 (by omega) FU (by unfold FU; omega) (Nat.le_refl _)
        rw [tpb_1] at this
        exact this
      refine zup (P := fun f k => 1 ≤ k → f_X10_top_17 0 f (nI (tpb (fun p => ct (outr A D0 p) (A 1)) k)) (nI k) σc = _) (A 1) ?_ ?_
      · intro f _
        rw [f_X10_top_17, hc.r8, zck_t hc.k.1, hc.2.1.1.2.1, zbr_t (Int32.le_refl _), C_grant, zbd_s]
      · intro f k hk ih h1
        have ih := ih (by omega)
        have hl := tpb_lt (fun p => ct (outr A D0 p) (A 1)) k h1
        have c1 := cle k
        have c2 := cle (tpb (fun p => ct (outr A D0 p) (A 1)) k)
        rw [f_X10_top_17, hc.r8, zck_t hc.k.1, hc.2.1.1.2.1, zbr_f (nI_ge hk (by omega)), hc.r1, zck_t v28, hc.o.1.2.1, hc.o.1.2.2, zck_t (zok_p (by omega) (by decide)), nI_clamp (by omega), C_belowCt hc hA hk, zbd_s, hc.r1, zck_t v28, hc.o.1.2.1, hc.o.1.2.2, zck_t (zok_p (by omega) (by decide)), nI_clamp (by omega), C_belowCt hc hA (by omega), zbd_s]
        unfold f_X10_top_57
        rw [tpb] at ih
        by_cases e : ct (outr A D0 (tpb (fun p => ct (outr A D0 p) (A 1)) k)) (A 1) < ct (outr A D0 k) (A 1)
        · rw [if_pos e] at ih
          rw [zbr_f (nI_ge e (by omega)), zlt_e, zlt_e, nI_1]
          exact ih
        · rw [if_neg e] at ih
          rw [zbr_t (nI_le (by omega) (by omega)), zlt_e, nI_1]
          exact ih
    · unfold f_X11_top
      rw [zck_t w0, M_good, zbd_s, zbr_f (fun z => q ((M_hl hg).mp z)), zlt_e, zlt_e]
      suffices key : ∀ k, k ≤ A 1 → ∀ f, A 1 - k < f → 1 ≤ k → f_X11_top_21 0 f (nI (tpb (fun p => ct (outr A D0 p) (A 1)) k)) (nI k) (gd σm) = some (nI (tpb (fun p => ct (outr A D0 p) (A 1)) (A 1)), gd σm) by
        have := key 1 (by omega) FU (by unfold FU; omega) (Nat.le_refl _)
        rw [tpb_1] at this
        exact this
      refine zup (P := fun f k => 1 ≤ k → f_X11_top_21 0 f (nI (tpb (fun p => ct (outr A D0 p) (A 1)) k)) (nI k) (gd σm) = _) (A 1) ?_ ?_
      · intro f _
        rw [f_X11_top_21, mr15 hg.1, w3, zck_t (by decide), cl1, hg.2.1 1 (by omega), zbr_t (Int32.le_refl _)]
      · intro f k hk ih h1
        have ih := ih (by omega)
        have hl := tpb_lt (fun p => ct (outr A D0 p) (A 1)) k h1
        have c1 := cle k
        have c2 := cle (tpb (fun p => ct (outr A D0 p) (A 1)) k)
        rw [f_X11_top_21, mr15 hg.1, w3, zck_t (by decide), cl1, hg.2.1 1 (by omega), zbr_f (nI_ge hk (by omega)), M_outrankedBy hg hA hk, zbd_s, M_ones (by omega), zbd_s, M_outrankedBy hg hA (by omega), zbd_s, M_ones (by omega), zbd_s]
        unfold f_X11_top_52
        rw [tpb] at ih
        by_cases e : ct (outr A D0 (tpb (fun p => ct (outr A D0 p) (A 1)) k)) (A 1) < ct (outr A D0 k) (A 1)
        · rw [if_pos e] at ih
          rw [zbr_f (nI_ge e (by omega)), zlt_e, zlt_e, nI_1]
          exact ih
        · rw [if_neg e] at ih
          rw [zbr_t (nI_le (by omega) (by omega)), zlt_e, nI_1]
          exact ih
/-- with these rules dropped there is a ring -/
def hr (A : Nat → Nat) (s : Nat) : Bool := an (fun p => (rs1 (outr A (fun k => s.testBit k)) (A 1) p).isSome) (A 1)
theorem hr_all {A : Nat → Nat} (hA : vA A) : hr A (2 ^ A 2 - 1) = false := by
  unfold hr
  refine an_false.mpr (fun p hp => ?_)
  have ho : ∀ x y, outr A (fun k => (2 ^ A 2 - 1).testBit k) x y = decide (A (10 + 2 * y) < A (10 + 2 * x)) := by
    intro x y
    have hov : ∀ x y, ov A (fun k => (2 ^ A 2 - 1).testBit k) (A 2) x y = false := by
      intro x y
      cases e : ov A (fun k => (2 ^ A 2 - 1).testBit k) (A 2) x y
      · rfl
      · obtain ⟨k, h1, h2, -⟩ := ov_iff.mp e
        rw [Nat.testBit_two_pow_sub_one, decide_eq_true h1] at h2
        cases h2
    unfold outr outrK
    rw [hov, hov]
    simp
  cases e : rs1 (outr A (fun k => (2 ^ A 2 - 1).testBit k)) (A 1) p with
  | none => rfl
  | some q =>
    have a2 : (outr A (fun k => (2 ^ A 2 - 1).testBit k) p q && (rs2 (outr A (fun k => (2 ^ A 2 - 1).testBit k)) (A 1) p q).isSome) = true := (fi_iff.mp e).2.1
    rw [Bool.and_eq_true, ho, decide_eq_true_eq] at a2
    cases e2 : rs2 (outr A (fun k => (2 ^ A 2 - 1).testBit k)) (A 1) p q with
    | none => rw [e2] at a2; cases a2.2
    | some r =>
      have a3 : (outr A (fun k => (2 ^ A 2 - 1).testBit k) q r && outr A (fun k => (2 ^ A 2 - 1).testBit k) r p) = true := (fi_iff.mp e2).2.1
      rw [Bool.and_eq_true, ho, ho, decide_eq_true_eq, decide_eq_true_eq] at a3
      omega
def fq (A : Nat → Nat) (n : Nat) : Option Nat := bmn (fun s => !hr A s) cS n
theorem fq_step (A : Nat → Nat) (n : Nat) : fq A (n + 1) = if (!hr A n) = true ∧ cS n < bmf cS (fq A n) then some n else fq A n := bmn_step cS_8
def fq0 : Option Nat → Nat
  | none => 0
  | some s => s
def fq7 : Option Nat → Nat
  | none => 7
  | some s => cS s
theorem cS_6 : ∀ s, s < 64 → cS s ≤ 6 := by decide +kernel
theorem fq7_b {s : Nat} (hs : s < 64) (x : Option Nat) : cS s < bmf cS x ↔ cS s < fq7 x := by
  have := cS_6 s hs
  cases x with
  | none => show cS s < 9 ↔ cS s < 7; omega
  | some t => exact Iff.rfl
theorem fq_step7 (A : Nat → Nat) {n : Nat} (hn : n < 64) : fq A (n + 1) = if (!hr A n) = true ∧ cS n < fq7 (fq A n) then some n else fq A n := by
  rw [fq_step]
  by_cases q : (!hr A n) = true ∧ cS n < fq7 (fq A n)
  · rw [if_pos q, if_pos ⟨q.1, (fq7_b hn _).mpr q.2⟩]
  · rw [if_neg q, if_neg (fun z => q ⟨z.1, (fq7_b hn _).mp z.2⟩)]
def Pf (a k : Nat) : Prop := Pr a k ∨ (a = 0 ∧ k = 24)
theorem O_free : zO_free Rel := by
  intro σc σm hR
  refine hR.q (fun b A B T hA hB hT hc hm => ?_)
  have hA1 := hA.1
  have hg := hm.g
  by_cases q : A 1 = 0
  · refine ⟨-1, 1, by decide, QC_refuse ?_, QM_refuse ?_⟩
    · unfold f_X10_free; rw [zck_t v0, C_noLetter hc hA, decide_eq_true q, zbd_s, zbr_f (by decide), C_refuse, zbd_s]
    · unfold f_X11_free; rw [zck_t w0, M_good, zbd_s, zbr_t ((M_hl hg).mpr q), M_no, zbd_s]
  · have hpow : (2 : Nat) ^ A 2 ≤ 2 ^ 6 := Nat.pow_le_pow_right (by decide) (by omega)
    have hpow0 : 0 < (2 : Nat) ^ A 2 := Nat.pow_pos (by decide)
    have hb : ∀ {k s}, k ≤ 2 ^ A 2 → fq A k = some s → s < 64 := fun hk e => by have := bmn_b e; omega
    refine ⟨nI (fq0 (fq A (2 ^ A 2))), 0, by decide, ?_, ?_⟩
    · unfold QC f_X10_free
      refine zH_ck v0 (zH_eq (C_noLetter hc hA) ?_)
      rw [decide_eq_false q]
      refine zH_t rfl (zH_lt (zH_lt (zH_lt ?_)))
      suffices key : ∀ k, k ≤ 2 ^ A 2 → ∀ f, 2 ^ A 2 - k < f → ∀ τ, fr (fun b _ => b = 30 ∨ b = 31) σc τ → zH (f_X10_free_20 0 f (nI (fq0 (fq A k))) (nI (fq7 (fq A k))) (nI k) τ) (fun r σ' => r = nI (fq0 (fq A (2 ^ A 2))) ∧ fr Pc σc σ' ∧ σ'.1 0 10 = 0) from key 0 (Nat.zero_le _) FU (by unfold FU; omega) σc (fr_r _ _)
      have p30 : ∀ a k : Nat, (fun b (_ : Nat) => b = 30 ∨ b = 31) a k → Pc a k := fun a k e => by unfold Pc; omega
      refine zup (P := fun f k => ∀ τ, fr (fun b _ => b = 30 ∨ b = 31) σc τ → zH (f_X10_free_20 0 f (nI (fq0 (fq A k))) (nI (fq7 (fq A k))) (nI k) τ) _) (2 ^ A 2) ?_ ?_
      · intro f τ hF
        have ht := hc.f (hF.mo p30)
        rw [f_X10_free_20, ht.r8, ht.2.1.1.2.2.1, nI_shl1 _ (by omega)]
        exact zH_ck ht.k.1 (zH_t (Int32.le_refl _) (zH_eq (C_grant _ _) (zH_ok ⟨rfl, (hF.mo p30).pi _ (by unfold Pc; omega), zpi_eq _ _ _ _⟩)))
      · intro f k hk ih τ hF
        have ht := hc.f (hF.mo p30)
        have c6 := cS_6 k (by omega)
        have f7 : fq7 (fq A k) ≤ 7 := by
          cases e : fq A k with
          | none => exact Nat.le_refl _
          | some s => have := cS_6 s (hb (by omega) e); show cS s ≤ 7; omega
        rw [fq_step7 A (show k < 64 by omega)] at ih
        have keep : ∀ υ, fr (fun b _ => b = 30 ∨ b = 31) σc υ → ¬ ((!hr A k) = true ∧ cS k < fq7 (fq A k)) → zH (f_X10_free_70 0 (f_X10_free_20 0 f) (nI (fq0 (fq A k))) (nI (fq7 (fq A k))) (nI k) υ) (fun r σ' => r = nI (fq0 (fq A (2 ^ A 2))) ∧ fr Pc σc σ' ∧ σ'.1 0 10 = 0) := by
          intro υ hu z
          have ih := ih υ hu
          rw [if_neg z] at ih
          unfold f_X10_free_70
          refine zH_lt ?_
          rw [nI_1]
          exact ih
        rw [f_X10_free_20, ht.r8, ht.2.1.1.2.2.1, nI_shl1 _ (by omega)]
        refine zH_ck ht.k.1 (zH_f (nI_ge hk (by omega)) (zH_eq (bc_s (by omega) τ) ?_))
        by_cases e1 : cS k < fq7 (fq A k)
        · have hl := Lc_v b
          have hcar := C_arrange (a := 30) (c := Lc b) (σ := τ) (fun j => k.testBit j) hA (by rw [ht.1]; exact oK_30 b) ht.k ht.2.1 (by omega)
          rw [← mk_of (n := 6) (show k < 2 ^ 6 by omega)] at hcar
          rw [ht.r2, ht.r8]
          refine zH_f (nI_ge e1 (by omega)) (zH_ck (by rfl) (zH_call hcar ?_))
          rintro - υ ⟨hu, ho⟩
          have hu := hF.tr hu
          have hU := hc.f (hu.mo p30)
          rw [hU.r2]
          refine zH_ck (by rfl) (zH_eq (C_hasRing (a := 30) ⟨by rw [hU.1]; exact oK_30 b, ho⟩ hA1.2.1) ?_)
          cases e2 : hr A k
          · have e2' : an (fun p => (rs1 (outr A (fun j => k.testBit j)) (A 1) p).isSome) (A 1) = false := e2
            rw [e2']
            refine zH_t rfl (zH_eq (bc_s (by omega) υ) (zH_lt (zH_lt ?_)))
            have ih := ih υ hu
            rw [if_pos ⟨by rw [e2]; rfl, e1⟩] at ih
            unfold f_X10_free_70
            refine zH_lt ?_
            rw [nI_1]
            exact ih
          · have e2' : an (fun p => (rs1 (outr A (fun j => k.testBit j)) (A 1) p).isSome) (A 1) = true := e2
            rw [e2']
            exact zH_f (by decide) (keep υ hu (fun z => by rw [e2] at z; cases z.1))
        · exact zH_t (nI_le (by omega) (by omega)) (keep τ hF (fun z => e1 z.2))
    · unfold QM f_X11_free
      refine zH_ck w0 (zH_eq (M_good _) (zH_f (fun z => q ((M_hl hg).mp z)) (zH_lt (zH_lt ?_))))
      have mD : ∀ (D : Nat → Bool) τ, fr Pf (gd σm) τ → τ.1 0 24 = nI (mk D 6) → mU A B T D τ := by
        intro D τ hF h24
        exact ⟨hF.1.trans hg.1, fun k hk => (hF.2 3 k (by unfold Pf Pr; omega)).trans (hg.2.1 k hk), fun k hk => (hF.2 7 k (by unfold Pf Pr; omega)).trans (hg.2.2.1 k hk), fun k hk => (hF.2 5 k (by unfold Pf Pr; omega)).trans (hg.2.2.2.1 k hk), h24, (hF.2 0 14 (by unfold Pf Pr; omega)).trans hg.2.2.2.2.2⟩
      have h15 : ∀ τ, fr Pf (gd σm) τ → τ.2 0 15 = 3 ∧ τ.1 3 2 = nI (A 2) := fun τ hF => ⟨mr15 (hF.1.trans hg.1), (hF.2 3 2 (by unfold Pf Pr; omega)).trans (hg.2.1 2 (by omega))⟩
      suffices key : ∀ k, k ≤ 2 ^ A 2 → ∀ f, 2 ^ A 2 - k < f → ∀ τ, fr Pf (gd σm) τ → zH (f_X11_free_22 0 f (oI (fq A k)) (nI k) τ) (fun r σ' => r = nI (fq0 (fq A (2 ^ A 2))) ∧ fr Pq σm σ' ∧ σ'.1 0 11 = 0) from key 0 (Nat.zero_le _) FU (by unfold FU; omega) _ (fr_r _ _)
      refine zup (P := fun f k => ∀ τ, fr Pf (gd σm) τ → zH (f_X11_free_22 0 f (oI (fq A k)) (nI k) τ) _) (2 ^ A 2) ?_ ?_
      · intro f τ hF
        rw [f_X11_free_22, (h15 τ hF).1, w3, cl2, (h15 τ hF).2, nI_shl1 _ (by omega)]
        refine zH_ck (by decide) (zH_t (Int32.le_refl _) (zH_lt (zH_ok ⟨?_, ?_, ?_⟩)))
        · cases e : fq A (2 ^ A 2) with
          | some s => rfl
          | none =>
            have := (bmn_iff _).1 e (2 ^ A 2 - 1) (by omega)
            have this : (!hr A (2 ^ A 2 - 1)) = false := this
            rw [hr_all hA] at this
            cases this
        · refine ⟨hF.1, fun a k hn => ?_⟩
          by_cases z : a = 0 ∧ k = 24
          · obtain ⟨rfl, rfl⟩ := z
            rw [zpi_eq, hm.2.2.2.2.1, show mk D0 6 = 0 from mk_e 6]
            rfl
          · rw [zpi_ne _ _ z, hF.2 a k (fun y => by
              rcases y with y | y
              · exact hn (Pr_Pq a k y)
              · exact z y)]
            exact (gd_f σm).2 a k hn
        · rw [zpi_ne _ _ (by omega), hF.2 0 11 (by unfold Pf Pr; omega)]
          exact gd_11 σm
      · intro f k hk ih τ hF
        rw [fq_step] at ih
        have keep : ∀ υ, fr Pf (gd σm) υ → ¬ ((!hr A k) = true ∧ cS k < bmf cS (fq A k)) → zH (f_X11_free_66 0 (f_X11_free_22 0 f) (oI (fq A k)) (nI k) υ) (fun r σ' => r = nI (fq0 (fq A (2 ^ A 2))) ∧ fr Pq σm σ' ∧ σ'.1 0 11 = 0) := by
          intro υ hu z
          have ih := ih υ hu
          rw [if_neg z] at ih
          unfold f_X11_free_66
          refine zH_lt ?_
          rw [nI_1]
          exact ih
        have go : ∀ υ, fr Pf (gd σm) υ → cS k < bmf cS (fq A k) → zH (f_X11_free_52 0 (f_X11_free_22 0 f) (oI (fq A k)) (nI k) υ) (fun r σ' => r = nI (fq0 (fq A (2 ^ A 2))) ∧ fr Pq σm σ' ∧ σ'.1 0 11 = 0) := by
          intro υ hu e1
          unfold f_X11_free_52
          refine zH_lt ?_
          have hu2 : fr Pf (gd σm) (zpi υ 0 24 (nI k)) := hu.pi _ (Or.inr ⟨rfl, rfl⟩)
          have hU := mD (fun j => k.testBit j) _ hu2 (by rw [zpi_eq]; exact congrArg nI (mk_of (n := 6) (show k < 2 ^ 6 by omega)))
          refine zH_call (M_hasRing hA hU) ?_
          rintro x ω ⟨rfl, hw⟩
          have hw : fr Pf (gd σm) ω := hu2.tr (hw.mo (fun a k z => Or.inl z))
          cases e2 : hr A k
          · have e2' : an (fun p => (rs1 (outr A (fun j => k.testBit j)) (A 1) p).isSome) (A 1) = false := e2
            rw [e2']
            refine zH_t rfl (zH_lt ?_)
            have ih := ih ω hw
            rw [if_pos ⟨by rw [e2]; rfl, e1⟩] at ih
            unfold f_X11_free_66
            refine zH_lt ?_
            rw [nI_1]
            exact ih
          · have e2' : an (fun p => (rs1 (outr A (fun j => k.testBit j)) (A 1) p).isSome) (A 1) = true := e2
            rw [e2']
            exact zH_f (by decide) (keep ω hw (fun z => by rw [e2] at z; cases z.1))
        rw [f_X11_free_22, (h15 τ hF).1, w3, cl2, (h15 τ hF).2, nI_shl1 _ (by omega)]
        refine zH_ck (by decide) (zH_f (nI_ge hk (by omega)) ?_)
        cases e : fq A k with
        | none =>
          rw [e] at go
          exact zH_t (by decide) (go τ hF (by have := cS_8 k; show cS k < 9; omega))
        | some s =>
          have hs := hb (by omega) e
          rw [e] at go keep
          have c1 := cS_8 k
          have c2 := cS_8 s
          refine zH_f (nI_pos (by omega)) (zH_eq (ones_s (by omega) τ) (zH_eq (ones_s (by omega) τ) ?_))
          by_cases e2 : cS k < cS s
          · exact zH_t (nI_lt e2 (by omega)) (go τ hF e2)
          · exact zH_f (nI_nlt (by omega) (by omega)) (keep τ hF (fun z => e2 z.2))
