/-! place, hand, allDone, ruler, power, doneBy, changes, since, idle -/
theorem oI_inj {x y : Option Nat} (hx : ∀ k, x = some k → k < 2 ^ 31) (hy : ∀ k, y = some k → k < 2 ^ 31) : oI x = oI y ↔ x = y := by
  cases x with
  | none =>
    cases y with
    | none => exact ⟨fun _ => rfl, fun _ => rfl⟩
    | some k => exact ⟨fun e => absurd e.symm (nI_m2 (hy k rfl)), fun e => by cases e⟩
  | some j =>
    cases y with
    | none => exact ⟨fun e => absurd e (nI_m2 (hx j rfl)), fun e => by cases e⟩
    | some k => exact ⟨fun e => by rw [(nI_eq (hx j rfl) (hy k rfl)).mp e], fun e => by rw [e]⟩
theorem oI_neg (x : Option Nat) (hx : ∀ k, x = some k → k < 2 ^ 31) : oI x < 0 ↔ x = none := by
  cases x with
  | none => exact ⟨fun _ => rfl, fun _ => by decide⟩
  | some j => exact ⟨fun e => absurd e (nI_pos (hx j rfl)), fun e => by cases e⟩
theorem vd_le {np : Nat} {L : lT} (h : vL np L) {o : Nat → Nat → Bool} {k : Nat} (e : vd o L = some k) : k ≤ 1 := by
  unfold vd at e
  cases e2 : ub o L with
  | none => rw [e2] at e; cases e
  | some a =>
    rw [e2] at e
    have := (h a (fi_iff.mp e2).1).2.1
    have e : (L.2 a).2.1 = k := Option.some.inj e
    omega
theorem ll_first {B : Nat → Nat} {m : Nat} {S : Nat → Bool} {n : Nat} : ∀ N, n ≤ N → ll B m (fun k => S k && decide (k < n)) N = ll B m S n := by
  intro N hN
  induction N with
  | zero =>
    have : n = 0 := by omega
    subst this; rfl
  | succ N ih =>
    by_cases q : n = N + 1
    · subst q
      exact ll_cong (fun k hk _ => by simp [hk])
    · rw [ll_f (fun z => by have := z.2; simp at this; omega)]
      exact ih (by omega)
theorem m_low : ∀ n, n < 9 → ((1 : Int32) <<< (nI n &&& 31)) - 1 = nI (mk (fun k => decide (k < n)) 8) := by decide +kernel
/-- a matter done, with a set of lines; with the first n -/
def vr (A B : Nat → Nat) (m : Nat) (S : Nat → Bool) : Option Nat := vd (outr A D0) (ll B m S (B 48))
def vrn (A B : Nat → Nat) (m n : Nat) : Option Nat := vd (outr A D0) (ll B m (rd B) n)
def tw (A B : Nat → Nat) (W : Nat → Bool) : Nat := ct (fun m => !decide (vr A B m (fun k => rd B k && !W k) = vr A B m (rd B))) (A 4)
/-- the best so far -/
def bmo (c : Nat → Nat) : Option Nat → Nat
  | none => 0
  | some h => c h
def bmx (c : Nat → Nat) : Nat → Option Nat
  | 0 => none
  | n + 1 => if bmo c (bmx c n) < c n then some n else bmx c n
theorem bmx_lt {c : Nat → Nat} : ∀ {n k : Nat}, bmx c n = some k → k < n
  | 0, _, h => by cases h
  | n + 1, k, h => by
    rw [bmx] at h
    by_cases q : bmo c (bmx c n) < c n
    · rw [if_pos q] at h
      cases h
      omega
    · rw [if_neg q] at h
      have := bmx_lt h
      omega
theorem oI_1 {x : Option Nat} (hx : ∀ k, x = some k → k < 2 ^ 31) : oI x = 1 ↔ x = some 1 := oI_inj (y := some 1) hx (fun k e => by cases e; decide)
section G2
variable {b : Bool} {A B T : Nat → Nat} {D : Nat → Bool} {σ : zS}
theorem vr_le (hB : vB A B) {m : Nat} {S : Nat → Bool} {k : Nat} (e : vr A B m S = some k) : k < 2 ^ 31 := by
  have := vd_le (ll_vL hB m S (Nat.le_refl _)) e
  omega
theorem vrn_le (hB : vB A B) {m n k : Nat} (hn : n ≤ B 48) (e : vrn A B m n = some k) : k < 2 ^ 31 := by
  have := vd_le (ll_vL hB m (rd B) hn) e
  omega
theorem vr_n (A B : Nat → Nat) (m : Nat) : vrn A B m (B 48) = vr A B m (rd B) := rfl
theorem C_vr (h : cU b A B T σ) (hA : vA A) (hB : vB A B) (S : Nat → Bool) {m : Nat} (hm : m < 2 ^ 31) : f_X10_verdict 0 (nI m) (nI (mk S 8)) σ = some (oI (vr A B m S), σ) := C_verdict h hA hB S hm
theorem C_vrr (h : cU b A B T σ) (hA : vA A) (hB : vB A B) {m : Nat} (hm : m < 2 ^ 31) : f_X10_verdict 0 (nI m) (nI (mk (rdB B) 8)) σ = some (oI (vr A B m (rd B)), σ) := by
  rw [C_verdict h hA hB _ hm, rdB_ll]; rfl
theorem C_vrw (h : cU b A B T σ) (hA : vA A) (hB : vB A B) (W : Nat → Bool) {m : Nat} (hm : m < 2 ^ 31) : f_X10_verdict 0 (nI m) (nI (mk (rdB B) 8) &&& (nI (mk W 8) ^^^ -1)) σ = some (oI (vr A B m (fun k => rd B k && !W k)), σ) := by
  rw [m_andn (by omega), C_verdict h hA hB _ hm]
  unfold vr
  rw [ll_cong (S' := fun k => rd B k && !W k) (fun k hk _ => by unfold rdB; rw [decide_eq_true hk, Bool.true_and])]
theorem C_verdictOfFirst (h : cU b A B T σ) (hA : vA A) (hB : vB A B) {m n : Nat} (hm : m < 2 ^ 31) (hn : n ≤ B 48) : f_X10_verdictOfFirst 0 (nI m) (nI n) σ = some (oI (vrn A B m n), σ) := by
  have h8 := hB.1
  unfold f_X10_verdictOfFirst
  rw [zck_t v0, h.r3, zck_t v32, C_readN h hA hB, zbd_s, m_low n (by omega), m_and, C_verdict h hA hB _ hm, zbd_s]
  unfold vrn
  rw [ll_cong (S' := fun k => rd B k && decide (k < n)) (fun k hk _ => by unfold rdB; rw [decide_eq_true hk, Bool.true_and]), ll_first _ hn]
theorem M_vrn (h : mU A B T D0 σ) (hA : vA A) (hB : vB A B) {m n : Nat} (hm : m < 2 ^ 31) (hn : n ≤ B 48) : zH (f_X11_doneOf 0 7 (nI m) (nI n) 0 σ) (fun x σ' => x = oI (vrn A B m n) ∧ fr Pl σ σ') := by
  have := M_doneOf h hA (Or.inl ⟨rfl, rfl⟩) hB (fun _ => false) (m := m) hm hn
  rw [mk_e] at this
  refine zH_mono this (fun x τ ht => ⟨?_, ht.2⟩)
  rw [ht.1, ll_cong (S' := rd B) (fun k _ _ => by simp)]
  rfl
theorem M_vrw (h : mU A B T D0 σ) (hA : vA A) (hB : vB A B) (W : Nat → Bool) {m : Nat} (hm : m < 2 ^ 31) : zH (f_X11_doneOf 0 7 (nI m) (nI (B 48)) (nI (mk W 8)) σ) (fun x σ' => x = oI (vr A B m (fun k => rd B k && !W k)) ∧ fr Pl σ σ') :=
  M_doneOf h hA (Or.inl ⟨rfl, rfl⟩) hB W (m := m) hm (Nat.le_refl _)
theorem M_vr (h : mU A B T D0 σ) (hA : vA A) (hB : vB A B) {m : Nat} (hm : m < 2 ^ 31) : zH (f_X11_doneNow 0 (nI m) σ) (fun x σ' => x = oI (vr A B m (rd B)) ∧ fr Pl σ σ') := M_doneNow h hA hB hm
theorem C_turnedWithout (h : cU b A B T σ) (hA : vA A) (hB : vB A B) (W : Nat → Bool) : f_X10_turnedWithout 0 (nI (mk W 8)) σ = some (nI (tw A B W), σ) := by
  have hA1 := hA.1
  unfold f_X10_turnedWithout tw
  rw [zck_t v0, h.r3, zck_t v32, C_readN h hA hB, zbd_s, zlt_e, zlt_e, zlt_e]
  refine zup (P := fun f k => f_X10_turnedWithout_13 0 f (nI (mk W 8)) (nI (mk (rdB B) 8)) (nI (ct (fun m => !decide (vr A B m (fun k => rd B k && !W k) = vr A B m (rd B))) k)) (nI k) σ = _) (A 4) ?_ ?_ 0 (Nat.zero_le _) FU (by unfold FU; omega)
  · intro f
    rw [f_X10_turnedWithout_13, h.r8, zck_t h.k.1, h.2.1.1.2.2.2.2.1, zbr_t (Int32.le_refl _)]
  · intro f k hk ih
    rw [f_X10_turnedWithout_13, h.r8, zck_t h.k.1, h.2.1.1.2.2.2.2.1, zbr_f (nI_ge hk (by omega)), C_vrw h hA hB W (by omega), zbd_s, C_vrr h hA hB (by omega), zbd_s]
    unfold f_X10_turnedWithout_49
    rw [ct] at ih
    by_cases q : vr A B k (fun k => rd B k && !W k) = vr A B k (rd B)
    · rw [decide_eq_true q, if_neg (by decide), Nat.add_zero] at ih
      rw [zbr_t (by rw [q]), zlt_e, nI_1]
      exact ih
    · rw [decide_eq_false q, if_pos (by decide)] at ih
      rw [zbr_f (fun z => q ((oI_inj (fun _ => vr_le hB) (fun _ => vr_le hB)).mp z)), zlt_e, zlt_e, nI_1, nI_1]
      exact ih
theorem M_changedWithout (h : mU A B T D0 σ) (hA : vA A) (hB : vB A B) (W : Nat → Bool) : zH (f_X11_changedWithout 0 (nI (mk W 8)) σ) (fun x σ' => x = nI (tw A B W) ∧ fr Pl σ σ') := by
  have hA1 := hA.1
  have h8 := hB.1
  unfold f_X11_changedWithout tw
  refine zH_ck w0 (zH_lt (zH_lt ?_))
  suffices key : ∀ k, k ≤ A 4 → ∀ f, A 4 - k < f → ∀ τ, fr Pl σ τ → zH (f_X11_changedWithout_4 0 f (nI (mk W 8)) (nI (ct (fun m => !decide (vr A B m (fun k => rd B k && !W k) = vr A B m (rd B))) k)) (nI k) τ) (fun x σ' => x = nI (ct (fun m => !decide (vr A B m (fun k => rd B k && !W k) = vr A B m (rd B))) (A 4)) ∧ fr Pl σ σ') from key 0 (Nat.zero_le _) FU (by unfold FU; omega) _ (fr_r Pl σ)
  refine zup (P := fun f k => ∀ τ, fr Pl σ τ → zH (f_X11_changedWithout_4 0 f (nI (mk W 8)) (nI (ct (fun m => !decide (vr A B m (fun k => rd B k && !W k) = vr A B m (rd B))) k)) (nI k) τ) _) (A 4) ?_ ?_
  · intro f τ hF
    have ht := h.l hF
    rw [f_X11_changedWithout_4, mr15 ht.1, w3, cl4, ht.2.1 4 (by omega)]
    exact zH_ck (by decide) (zH_t (Int32.le_refl _) (zH_ok ⟨rfl, hF⟩))
  · intro f k hk ih τ hF
    have ht := h.l hF
    rw [f_X11_changedWithout_4, mr15 ht.1, w3, cl4, ht.2.1 4 (by omega), mr19 ht.1, w7, cl48, ht.2.2.1 48 (by omega)]
    refine zH_ck (by decide) (zH_f (nI_ge hk (by omega)) (zH_ck (by decide) (zH_call (M_vrw ht hA hB W (by omega)) ?_)))
    rintro x υ ⟨rfl, hu⟩
    have hu := hF.tr hu
    refine zH_call (M_vr (h.l hu) hA hB (by omega)) ?_
    rintro x ω ⟨rfl, hw⟩
    have hw := hu.tr hw
    have ih := ih ω hw
    rw [ct] at ih
    unfold f_X11_changedWithout_45
    by_cases q : vr A B k (fun k => rd B k && !W k) = vr A B k (rd B)
    · rw [decide_eq_true q, if_neg (by decide)] at ih
      refine zH_t (by rw [q]) (zH_lt (zH_lt ?_))
      rw [nI_1, show (0 : Int32) = nI 0 from rfl, nI_add]
      exact ih
    · rw [decide_eq_false q, if_pos (by decide)] at ih
      refine zH_f (fun z => q ((oI_inj (fun _ => vr_le hB) (fun _ => vr_le hB)).mp z)) (zH_lt (zH_lt ?_))
      rw [nI_1, nI_1]
      exact ih
theorem lines_w (F : Nat → Bool) (hB : vB A B) : mk F (B 48) = mk (fun k => decide (k < B 48) && F k) 8 := mk_w hB.1
theorem noL (hA : vA A) : (decide (0 < A 1) = true ↔ ¬ A 1 = 0) := by simp; omega
theorem M_hl (h : mU A B T D σ) : σ.1 0 14 = 0 ↔ A 1 = 0 := by
  rw [h.2.2.2.2.2, bI_0]
  simp
end G2
theorem O_place : zO_place Rel := by
  intro σc σm x y hR
  refine hR.q (fun b A B T hA hB hT hc hm => ?_)
  have hA1 := hA.1
  have e24 : zpi (gd σm) 0 24 0 = gd σm := zpi_id (hm.g.2.2.2.2.1.trans (by unfold D0; rw [mk_e]; rfl))
  have hg := hm.g
  cases hx : inR x (A 1)
  · refine ⟨-1, 1, by decide, QC_refuse ?_, QM_refuse ?_⟩
    · unfold f_X10_place; rw [zck_t v0, C_isPlace hc hA, hx, zbd_s, zbr_t (by rfl), C_refuse, zbd_s]
    · unfold f_X11_place; rw [zck_t w0, M_good, zbd_s, zlt_e, e24, M_isPlace hg hA, hx, zbd_s, zbr_t (by rfl)]; rfl
  · obtain ⟨p, hp, rfl⟩ := inR_t hx
    have pre1 : f_X11_place 0 (nI p) y σm = zbd (f_X11_in y 0 5 (gd σm)) (fun r8 σ9 => zbr (r8 = 0) (f_X11_place_26 0 σ9) (zbr (y = 0) (zck (zok 100 (WM.2 (σ9.2 0 15)) (10 + 2 * nI p)) (some ((σ9.1 (σ9.2 0 15) (10 + 2 * nI p : Int32).toNatClampNeg), σ9))) (zbr (y = 1) (zck (zok 100 (WM.2 (σ9.2 0 15)) (10 + 2 * nI p + 1)) (some ((σ9.1 (σ9.2 0 15) (10 + 2 * nI p + 1 : Int32).toNatClampNeg), σ9))) (zbr (y = 2) (zbd (f_X11_roomOn 0 (σ9.2 0 15) (σ9.2 0 19) (nI p) σ9) (fun r13 σ14 => some (r13, σ14))) (zbr (y = 3) (zbd (f_X11_outrankedBy 0 (nI p) σ9) (fun r16 σ17 => some (r16, σ17))) (zbr (y = 4) (zbd (f_X11_linesAt 0 (nI p) σ9) (fun r19 σ20 => some (r19, σ20))) (zck (zok 100 (WM.2 (σ9.2 0 19)) 49) (some ((((σ9.1 (σ9.2 0 19) (49 : Int32).toNatClampNeg) >>> (nI p &&& 31)) &&& 1), σ9))))))))) := by
      unfold f_X11_place
      rw [zck_t w0, M_good, zbd_s, zlt_e, e24, M_isPlace hg hA, hx, zbd_s, zbr_f (by decide)]
    have i5 : f_X11_in y 0 5 (gd σm) = some (bI (inR y 6), gd σm) := M_inc y (n := 5) (by decide) _
    have pre2 : f_X10_place 0 (nI p) y σc = zbr (y = 0) (zbd (f_X10_grant 0 (nI (A (10 + 2 * p))) σc) (fun r s => some (r, s))) (zbr (y = 1) (zbd (f_X10_grant 0 (nI (A (11 + 2 * p))) σc) (fun r s => some (r, s))) (zbr (y = 2) (zbd (f_X10_grant 0 (nI (room A B p)) σc) (fun r s => some (r, s))) (zbr (y = 3) (zbd (f_X10_grant 0 (nI (mk (fun q => decide (q < A 1) && outr A D0 p q) 6)) σc) (fun r s => some (r, s))) (zbr (y = 4) (zbd (f_X10_grant 0 (nI (mk (fun k => decide (B (6 * k + 1) = p)) (B 48))) σc) (fun r s => some (r, s))) (zbr (y = 5) (zbd (f_X10_grant 0 (bI ((B 49).testBit p)) σc) (fun r s => some (r, s))) (zbd (f_X10_refuse 0 1 σc) (fun r s => some (r, s)))))))) := by
      have hf2 : B 49 < 2 ^ 31 := Nat.lt_of_lt_of_le hB.1.2.1 (Nat.pow_le_pow_right (by decide) (by omega))
      unfold f_X10_place
      rw [zck_t v0, C_isPlace hc hA, hx, zbd_s, zbr_f (by decide), hc.r8, zck_t hc.k.1, zck_t hc.k.1, hc.k.2.1.1, hc.k.2.2.1.1, zck_t (zok_p (by omega) (by decide)), nI_clamp (by omega), (hc.2.1.2.1 p hp).1, hc.k.2.1.2.1, hc.k.2.2.1.2.1, zck_t (zok_p (by omega) (by decide)), (hc.2.1.2.1 p hp).2, C_roomAt hc hA hB hp, zbd_s, hc.r1, zck_t v28, hc.o.1.2.1, hc.o.1.2.2, zck_t (zok_p (by omega) (by decide)), hc.2.2.2.2.2 p hp, hc.r3, zck_t v32, C_linesAt hc.n hB.1.1 (fun k hk => by have := hB.1.2.2 k hk; omega) (by omega), zbd_s, zck_t v32, hc.n.2.2.2.1, nI_get hf2 (by omega)]
    cases hy : inR y 6
    · refine ⟨-1, 1, by decide, QC_refuse ?_, QM_refuse ?_⟩
      · rw [pre2, zbr_f (show ¬ y = 0 from inR_ne hy 0 (by decide) (by decide)), zbr_f (show ¬ y = 1 from inR_ne hy 1 (by decide) (by decide)), zbr_f (show ¬ y = 2 from inR_ne hy 2 (by decide) (by decide)), zbr_f (show ¬ y = 3 from inR_ne hy 3 (by decide) (by decide)), zbr_f (show ¬ y = 4 from inR_ne hy 4 (by decide) (by decide)), zbr_f (show ¬ y = 5 from inR_ne hy 5 (by decide) (by decide)), C_refuse, zbd_s]
      · rw [pre1, i5, hy, zbd_s, zbr_t (by rfl)]; rfl
    · obtain ⟨w, hw, rfl⟩ := inR_t hy
      rw [pre1, i5, hy, zbd_s, zbr_f (by decide), pre2, mr15 hg.1, mr19 hg.1]
      have hw : w = 0 ∨ w = 1 ∨ w = 2 ∨ w = 3 ∨ w = 4 ∨ w = 5 := by omega
      rcases hw with rfl | rfl | rfl | rfl | rfl | rfl
      · refine ⟨nI (A (10 + 2 * p)), 0, by decide, QC_grant ?_, QM_pure ?_⟩
        · rw [zbr_t (by rfl)]; rfl
        · rw [zbr_t (by rfl), w3, jx10, zck_t (zok_p (by omega) (by decide)), nI_clamp (by omega), hg.2.1 _ (by omega)]
      · refine ⟨nI (A (11 + 2 * p)), 0, by decide, QC_grant ?_, QM_pure ?_⟩
        · rw [zbr_f (by decide), zbr_t (by rfl)]; rfl
        · rw [zbr_f (by decide), zbr_t (by rfl), w3, jx10, jx11, zck_t (zok_p (by omega) (by decide)), nI_clamp (by omega), hg.2.1 _ (by omega)]
      · refine ⟨nI (room A B p), 0, by decide, QC_grant ?_, QM_pure ?_⟩
        · rw [zbr_f (by decide), zbr_f (by decide), zbr_t (by rfl)]; rfl
        · rw [zbr_f (by decide), zbr_f (by decide), zbr_t (by rfl), M_room hg hA hB hp, zbd_s]
      · refine ⟨nI (mk (fun q => decide (q < A 1) && outr A D0 p q) 6), 0, by decide, QC_grant ?_, QM_pure ?_⟩
        · rw [zbr_f (by decide), zbr_f (by decide), zbr_f (by decide), zbr_t (by rfl)]; rfl
        · rw [zbr_f (by decide), zbr_f (by decide), zbr_f (by decide), zbr_t (by rfl), M_outrankedBy hg hA hp, zbd_s, mk_w (w := 6) (by omega)]
      · refine ⟨nI (mk (fun k => decide (B (6 * k + 1) = p)) (B 48)), 0, by decide, QC_grant ?_, QM_pure ?_⟩
        · rw [zbr_f (by decide), zbr_f (by decide), zbr_f (by decide), zbr_f (by decide), zbr_t (by rfl)]; rfl
        · rw [zbr_f (by decide), zbr_f (by decide), zbr_f (by decide), zbr_f (by decide), zbr_t (by rfl), M_linesAt hg hB.1 hA (by omega), zbd_s]
      · have hf2 : B 49 < 2 ^ 31 := Nat.lt_of_lt_of_le hB.1.2.1 (Nat.pow_le_pow_right (by decide) (by omega))
        refine ⟨bI ((B 49).testBit p), 0, by decide, QC_grant ?_, QM_pure ?_⟩
        · rw [zbr_f (by decide), zbr_f (by decide), zbr_f (by decide), zbr_f (by decide), zbr_f (by decide), zbr_t (by rfl)]; rfl
        · rw [zbr_f (by decide), zbr_f (by decide), zbr_f (by decide), zbr_f (by decide), zbr_f (by decide), w7, zck_t (by decide), cl49, hg.2.2.1 49 (by omega), nI_get hf2 (by omega)]
theorem O_hand : zO_hand Rel := by
  intro σc σm x y hR
  refine hR.q (fun b A B T hA hB hT hc hm => ?_)
  have hA1 := hA.1
  have hg := hm.g
  cases hx : inR x (A 3)
  · refine ⟨-1, 1, by decide, QC_refuse ?_, QM_refuse ?_⟩
    · unfold f_X10_hand; rw [zck_t v0, C_isHand hc hA, hx, zbd_s, zbr_t (by rfl), C_refuse, zbd_s]
    · unfold f_X11_hand
      rw [zck_t w0, M_good, zbd_s]
      by_cases q : A 1 = 0
      · rw [zbr_t ((M_hl hg).mpr q)]; rfl
      · rw [zbr_f (fun z => q ((M_hl hg).mp z)), mr15 hg.1, w3, zck_t (by decide), cl3, hg.2.1 3 (by omega), M_in0 x (by omega), hx, zbd_s, zbr_t (by rfl)]; rfl
  · obtain ⟨p, hp, rfl⟩ := inR_t hx
    have q : ¬ A 1 = 0 := fun z => by have := hA.z z; omega
    have i2 : f_X11_in y 0 2 (gd σm) = some (bI (inR y 3), gd σm) := M_inc y (n := 2) (by decide) _
    have pre1 : f_X11_hand 0 (nI p) y σm = zbr (bI (inR y 3) = 0) (f_X11_hand_36 0 (gd σm)) (zbr (y = 0) (some (nI (A (34 + p)), gd σm)) (zbr (y = 1) (zbd (f_X11_linesOf 0 (nI p) (gd σm)) (fun r9 σ10 => some (r9, σ10))) (zbd (f_X11_ruledBy 0 (nI p) (gd σm)) (fun r11 σ12 => some (r11, σ12))))) := by
      unfold f_X11_hand
      rw [zck_t w0, M_good, zbd_s, zbr_f (fun z => q ((M_hl hg).mp z)), mr15 hg.1, w3, zck_t (by decide), cl3, hg.2.1 3 (by omega), M_in0 _ (by omega), hx, zbd_s, zbr_f (by decide), i2, zbd_s, mr15 hg.1, w3, show (34 : Int32) + nI p = nI (34 + p) from nI_add 34 p, zck_t (zok_p (by omega) (by decide)), nI_clamp (by omega), hg.2.1 _ (by omega)]
    have pre2 : f_X10_hand 0 (nI p) y σc = zbr (y = 0) (zbd (f_X10_grant 0 (nI (A (34 + p))) σc) (fun r s => some (r, s))) (zbr (y = 1) (zbd (f_X10_grant 0 (nI (mk (fun k => decide (B (6 * k) = p)) (B 48))) σc) (fun r s => some (r, s))) (zbr (y = 2) (zbd (f_X10_grant 0 (nI (mk (ru A B p) (A 4))) σc) (fun r s => some (r, s))) (zbd (f_X10_refuse 0 1 σc) (fun r s => some (r, s))))) := by
      unfold f_X10_hand
      rw [zck_t v0, C_isHand hc hA, hx, zbd_s, zbr_f (by decide), hc.r8, zck_t hc.k.1, hc.k.2.1.2.2.2.2.1, hc.k.2.2.1.2.2.2.2.1, zck_t (zok_p (by omega) (by decide)), nI_clamp (by omega), hc.2.1.2.2.2.1 p hp, hc.r3, zck_t v32, C_linesBy hc.n hB.1.1 (fun k hk => by have := hB.1.2.2 k hk; omega) (by omega), zbd_s, C_ruledBy hc hA hB.1 (by omega), zbd_s]
    cases hy : inR y 3
    · refine ⟨-1, 1, by decide, QC_refuse ?_, QM_refuse ?_⟩
      · rw [pre2, zbr_f (show ¬ y = 0 from inR_ne hy 0 (by decide) (by decide)), zbr_f (show ¬ y = 1 from inR_ne hy 1 (by decide) (by decide)), zbr_f (show ¬ y = 2 from inR_ne hy 2 (by decide) (by decide)), C_refuse, zbd_s]
      · rw [pre1, hy, zbr_t (by rfl)]; rfl
    · obtain ⟨w, hw, rfl⟩ := inR_t hy
      rw [pre1, hy, zbr_f (by decide), pre2]
      have hw : w = 0 ∨ w = 1 ∨ w = 2 := by omega
      rcases hw with rfl | rfl | rfl
      · exact ⟨nI (A (34 + p)), 0, by decide, QC_grant (by rw [zbr_t (by rfl)]; rfl), QM_pure (by rw [zbr_t (by rfl)])⟩
      · exact ⟨nI (mk (fun k => decide (B (6 * k) = p)) (B 48)), 0, by decide, QC_grant (by rw [zbr_f (by decide), zbr_t (by rfl)]; rfl), QM_pure (by rw [zbr_f (by decide), zbr_t (by rfl), M_linesOf hg hB.1 hA (by omega), zbd_s])⟩
      · refine ⟨nI (mk (ru A B p) (A 4)), 0, by decide, QC_grant (by rw [zbr_f (by decide), zbr_f (by decide), zbr_t (by rfl)]; rfl), QM_ans ?_⟩
        exact zH_f (by decide) (zH_f (by decide) (zH_call (M_ruledBy hg hA hB.1 (by omega)) (fun x τ ht => zH_ok ht)))
theorem O_allDone : zO_allDone Rel := by
  intro σc σm hR
  refine hR.q (fun b A B T hA hB hT hc hm => ?_)
  have hA1 := hA.1
  have hg := hm.g
  by_cases q : A 1 = 0
  · refine ⟨-1, 1, by decide, QC_refuse ?_, QM_refuse ?_⟩
    · unfold f_X10_allDone; rw [zck_t v0, C_noLetter hc hA, decide_eq_true q, zbd_s, zbr_f (by decide), C_refuse, zbd_s]
    · unfold f_X11_allDone; rw [zck_t w0, M_good, zbd_s, zbr_t ((M_hl hg).mpr q), M_no, zbd_s]
  · refine ⟨nI (mk (fun m => decide (vr A B m (rd B) = some 1)) (A 4)), 0, by decide, QC_grant ?_, QM_ans ?_⟩
    · unfold f_X10_allDone
      rw [zck_t v0, C_noLetter hc hA, decide_eq_false q, zbd_s, zbr_t (by rfl), hc.r3, zck_t v32, C_readN hc hA hB.1, zbd_s, zlt_e, zlt_e, zlt_e]
      refine zup (P := fun f k => f_X10_allDone_25 0 f (nI (mk (rdB B) 8)) (nI (mk (fun m => decide (vr A B m (rd B) = some 1)) k)) (nI k) σc = _) (A 4) ?_ ?_ 0 (Nat.zero_le _) FU (by unfold FU; omega)
      · intro f
        rw [f_X10_allDone_25, hc.r8, zck_t hc.k.1, hc.2.1.1.2.2.2.2.1, zbr_t (Int32.le_refl _), C_grant, zbd_s]
      · intro f k hk ih
        rw [f_X10_allDone_25, hc.r8, zck_t hc.k.1, hc.2.1.1.2.2.2.2.1, zbr_f (nI_ge hk (by omega)), C_vrr hc hA hB.1 (by omega), zbd_s]
        unfold f_X10_allDone_52
        by_cases e : vr A B k (rd B) = some 1
        · rw [zbr_t (by rw [e]; rfl), zlt_e, m_step (by omega) (decide_eq_true e), zlt_e, nI_1]
          exact ih
        · rw [mk_sf (f := fun m => decide (vr A B m (rd B) = some 1)) (n := k) (decide_eq_false e)] at ih
          rw [zbr_f (fun z => e ((oI_1 (fun _ => vr_le hB.1)).mp z)), zlt_e, nI_1]
          exact ih
    · unfold f_X11_allDone
      refine zH_ck w0 (zH_eq (M_good _) (zH_f (fun z => q ((M_hl hg).mp z)) (zH_lt (zH_lt ?_))))
      suffices key : ∀ k, k ≤ A 4 → ∀ f, A 4 - k < f → ∀ τ, fr Pl (gd σm) τ → zH (f_X11_allDone_21 0 f (nI (mk (fun m => decide (vr A B m (rd B) = some 1)) k)) (nI k) τ) (fun x σ' => x = nI (mk (fun m => decide (vr A B m (rd B) = some 1)) (A 4)) ∧ fr Pl (gd σm) σ') from key 0 (Nat.zero_le _) FU (by unfold FU; omega) _ (fr_r Pl _)
      refine zup (P := fun f k => ∀ τ, fr Pl (gd σm) τ → zH (f_X11_allDone_21 0 f (nI (mk (fun m => decide (vr A B m (rd B) = some 1)) k)) (nI k) τ) _) (A 4) ?_ ?_
      · intro f τ hF
        have ht := hg.l hF
        rw [f_X11_allDone_21, mr15 ht.1, w3, cl4, ht.2.1 4 (by omega)]
        exact zH_ck (by decide) (zH_t (Int32.le_refl _) (zH_ok ⟨rfl, hF⟩))
      · intro f k hk ih τ hF
        have ht := hg.l hF
        rw [f_X11_allDone_21, mr15 ht.1, w3, cl4, ht.2.1 4 (by omega)]
        refine zH_ck (by decide) (zH_f (nI_ge hk (by omega)) (zH_call (M_vr ht hA hB.1 (by omega)) ?_))
        rintro x υ ⟨rfl, hu⟩
        have ih := ih υ (hF.tr hu)
        unfold f_X11_allDone_48
        by_cases e : vr A B k (rd B) = some 1
        · refine zH_t (by rw [e]; rfl) (zH_lt (zH_lt ?_))
          rw [m_step (by omega) (decide_eq_true e), nI_1]
          exact ih
        · rw [mk_sf (f := fun m => decide (vr A B m (rd B) = some 1)) (n := k) (decide_eq_false e)] at ih
          refine zH_f (fun z => e ((oI_1 (fun _ => vr_le hB.1)).mp z)) (zH_lt (zH_lt ?_))
          rw [nI_or0, nI_1]
          exact ih
