/-! ruler, power, doneBy, changes, since, idle, line -/
theorem bmx_v {c : Nat → Nat} {n N : Nat} (hc : ∀ k, c k ≤ N) : bmo c (bmx c n) ≤ N := by
  cases bmx c n with
  | none => exact Nat.zero_le _
  | some h => exact hc h
theorem O_ruler : zO_ruler Rel := by
  intro σc σm hR
  refine hR.q (fun b A B T hA hB hT hc hm => ?_)
  have hA1 := hA.1
  have hg := hm.g
  by_cases q : A 1 = 0
  · refine ⟨-1, 1, by decide, QC_refuse ?_, QM_refuse ?_⟩
    · unfold f_X10_ruler; rw [zck_t v0, C_noLetter hc hA, decide_eq_true q, zbd_s, zbr_f (by decide), C_refuse, zbd_s]
    · unfold f_X11_ruler; rw [zck_t w0, M_good, zbd_s, zbr_t ((M_hl hg).mpr q), M_no, zbd_s]
  · have cle : ∀ h, ct (ru A B h) (A 4) ≤ 4 := fun h => Nat.le_trans (ct_le _ _) (by omega)
    refine ⟨oI (bmx (fun h => ct (ru A B h) (A 4)) (A 3)), 0, by decide, QC_grant ?_, QM_ans ?_⟩
    · unfold f_X10_ruler
      rw [zck_t v0, C_noLetter hc hA, decide_eq_false q, zbd_s, zbr_t (by rfl), zlt_e, zlt_e, zlt_e]
      refine zup (P := fun f k => f_X10_ruler_20 0 f (oI (bmx (fun h => ct (ru A B h) (A 4)) k)) (nI (bmo (fun h => ct (ru A B h) (A 4)) (bmx (fun h => ct (ru A B h) (A 4)) k))) (nI k) σc = _) (A 3) ?_ ?_ 0 (Nat.zero_le _) FU (by unfold FU; omega)
      · intro f
        rw [f_X10_ruler_20, hc.r8, zck_t hc.k.1, hc.2.1.1.2.2.2.1, zbr_t (Int32.le_refl _), C_grant, zbd_s]
      · intro f k hk ih
        have e1 := cle k
        have e2 := bmx_v (c := fun h => ct (ru A B h) (A 4)) (n := k) cle
        rw [f_X10_ruler_20, hc.r8, zck_t hc.k.1, hc.2.1.1.2.2.2.1, zbr_f (nI_ge hk (by omega)), C_ruledBy hc hA hB.1 (by omega), zbd_s, bc_m WC _ (by omega), zbd_s, zlt_e]
        unfold f_X10_ruler_52
        rw [bmx] at ih
        by_cases e : bmo (fun h => ct (ru A B h) (A 4)) (bmx (fun h => ct (ru A B h) (A 4)) k) < ct (ru A B k) (A 4)
        · rw [if_pos e] at ih
          rw [zbr_f (nI_ge e (by omega)), zlt_e, zlt_e, zlt_e, nI_1]
          exact ih
        · rw [if_neg e] at ih
          rw [zbr_t (nI_le (by omega) (by omega)), zlt_e, nI_1]
          exact ih
    · unfold f_X11_ruler
      refine zH_ck w0 (zH_eq (M_good _) (zH_f (fun z => q ((M_hl hg).mp z)) (zH_lt (zH_lt ?_))))
      suffices key : ∀ k, k ≤ A 3 → ∀ f, A 3 - k < f → ∀ τ, fr Pl (gd σm) τ → zH (f_X11_ruler_22 0 f (oI (bmx (fun h => ct (ru A B h) (A 4)) k)) (nI k) τ) (fun x σ' => x = oI (bmx (fun h => ct (ru A B h) (A 4)) (A 3)) ∧ fr Pl (gd σm) σ') from key 0 (Nat.zero_le _) FU (by unfold FU; omega) _ (fr_r Pl _)
      refine zup (P := fun f k => ∀ τ, fr Pl (gd σm) τ → zH (f_X11_ruler_22 0 f (oI (bmx (fun h => ct (ru A B h) (A 4)) k)) (nI k) τ) _) (A 3) ?_ ?_
      · intro f τ hF
        have ht := hg.l hF
        rw [f_X11_ruler_22, mr15 ht.1, w3, cl3, ht.2.1 3 (by omega)]
        exact zH_ck (by decide) (zH_t (Int32.le_refl _) (zH_ok ⟨rfl, hF⟩))
      · intro f k hk ih τ hF
        have ht := hg.l hF
        have e1 := cle k
        have fin : ∀ υ, fr Pl (gd σm) υ → zH (f_X11_ruler_56 0 (f_X11_ruler_22 0 f) (oI (bmx (fun h => ct (ru A B h) (A 4)) k)) (nI k) (nI (ct (ru A B k) (A 4))) (nI (bmo (fun h => ct (ru A B h) (A 4)) (bmx (fun h => ct (ru A B h) (A 4)) k))) υ) (fun x σ' => x = oI (bmx (fun h => ct (ru A B h) (A 4)) (A 3)) ∧ fr Pl (gd σm) σ') := by
          intro υ hu
          have ih := ih υ hu
          have e2 := bmx_v (c := fun h => ct (ru A B h) (A 4)) (n := k) cle
          unfold f_X11_ruler_56 f_X11_ruler_61
          rw [bmx] at ih
          by_cases e : bmo (fun h => ct (ru A B h) (A 4)) (bmx (fun h => ct (ru A B h) (A 4)) k) < ct (ru A B k) (A 4)
          · rw [if_pos e] at ih
            refine zH_f (nI_ge e (by omega)) (zH_lt (zH_lt ?_))
            rw [nI_1]
            exact ih
          · rw [if_neg e] at ih
            refine zH_t (nI_le (by omega) (by omega)) (zH_lt ?_)
            rw [nI_1]
            exact ih
        rw [f_X11_ruler_22, mr15 ht.1, w3, cl3, ht.2.1 3 (by omega)]
        refine zH_ck (by decide) (zH_f (nI_ge hk (by omega)) (zH_call (M_ruledBy ht hA hB.1 (by omega)) ?_))
        rintro x υ ⟨rfl, hu⟩
        have hu := hF.tr hu
        refine zH_eq (M_ones (by omega) υ) ?_
        have fin2 := fin υ hu
        cases e : bmx (fun h => ct (ru A B h) (A 4)) k with
        | none =>
          rw [e] at fin2
          exact zH_f (by decide) fin2
        | some j =>
          have hj := bmx_lt e
          rw [e] at fin
          refine zH_t (nI_pos' (by omega)) (zH_call (M_ruledBy (hg.l hu) hA hB.1 (by omega)) ?_)
          rintro x ω ⟨rfl, hw⟩
          exact zH_eq (M_ones (by omega) ω) (fin ω (hu.tr hw))
theorem O_power : zO_power Rel := by
  intro σc σm hR
  refine hR.q (fun b A B T hA hB hT hc hm => ?_)
  have hA1 := hA.1
  have hg := hm.g
  by_cases q : A 1 = 0
  · refine ⟨-1, 1, by decide, QC_refuse ?_, QM_refuse ?_⟩
    · unfold f_X10_power; rw [zck_t v0, C_noLetter hc hA, decide_eq_true q, zbd_s, zbr_f (by decide), C_refuse, zbd_s]
    · unfold f_X11_power; rw [zck_t w0, M_good, zbd_s, zbr_t ((M_hl hg).mpr q), M_no, zbd_s]
  · have cle : ∀ h, tw A B (fun k => decide (k < B 48) && decide (B (6 * k) = h)) ≤ 4 := fun h => Nat.le_trans (ct_le _ _) (by omega)
    refine ⟨oI (bmx (fun h => tw A B (fun k => decide (k < B 48) && decide (B (6 * k) = h))) (A 3)), 0, by decide, QC_grant ?_, QM_ans ?_⟩
    · unfold f_X10_power
      rw [zck_t v0, C_noLetter hc hA, decide_eq_false q, zbd_s, zbr_t (by rfl), zlt_e, zlt_e, zlt_e]
      refine zup (P := fun f k => f_X10_power_20 0 f (oI (bmx (fun h => tw A B (fun k => decide (k < B 48) && decide (B (6 * k) = h))) k)) (nI (bmo (fun h => tw A B (fun k => decide (k < B 48) && decide (B (6 * k) = h))) (bmx (fun h => tw A B (fun k => decide (k < B 48) && decide (B (6 * k) = h))) k))) (nI k) σc = _) (A 3) ?_ ?_ 0 (Nat.zero_le _) FU (by unfold FU; omega)
      · intro f
        rw [f_X10_power_20, hc.r8, zck_t hc.k.1, hc.2.1.1.2.2.2.1, zbr_t (Int32.le_refl _), C_grant, zbd_s]
      · intro f k hk ih
        have e1 := cle k
        have e2 := bmx_v (c := fun h => tw A B (fun k => decide (k < B 48) && decide (B (6 * k) = h))) (n := k) cle
        rw [f_X10_power_20, hc.r8, zck_t hc.k.1, hc.2.1.1.2.2.2.1, zbr_f (nI_ge hk (by omega)), hc.r3, zck_t v32, C_linesBy hc.n hB.1.1 (fun k hk => by have := hB.1.2.2 k hk; omega) (by omega), zbd_s, lines_w _ hB.1, C_turnedWithout hc hA hB.1, zbd_s, zlt_e]
        unfold f_X10_power_56
        rw [bmx] at ih
        by_cases e : bmo (fun h => tw A B (fun k => decide (k < B 48) && decide (B (6 * k) = h))) (bmx (fun h => tw A B (fun k => decide (k < B 48) && decide (B (6 * k) = h))) k) < tw A B (fun j => decide (j < B 48) && decide (B (6 * j) = k))
        · rw [if_pos e] at ih
          rw [zbr_f (nI_ge e (by omega)), zlt_e, zlt_e, zlt_e, nI_1]
          exact ih
        · rw [if_neg e] at ih
          rw [zbr_t (nI_le (by omega) (by omega)), zlt_e, nI_1]
          exact ih
    · unfold f_X11_power
      refine zH_ck w0 (zH_eq (M_good _) (zH_f (fun z => q ((M_hl hg).mp z)) (zH_lt (zH_lt (zH_lt ?_)))))
      suffices key : ∀ k, k ≤ A 3 → ∀ f, A 3 - k < f → ∀ τ, fr Pl (gd σm) τ → zH (f_X11_power_24 0 f (oI (bmx (fun h => tw A B (fun k => decide (k < B 48) && decide (B (6 * k) = h))) k)) (nI (bmo (fun h => tw A B (fun k => decide (k < B 48) && decide (B (6 * k) = h))) (bmx (fun h => tw A B (fun k => decide (k < B 48) && decide (B (6 * k) = h))) k))) (nI k) τ) (fun x σ' => x = oI (bmx (fun h => tw A B (fun k => decide (k < B 48) && decide (B (6 * k) = h))) (A 3)) ∧ fr Pl (gd σm) σ') from key 0 (Nat.zero_le _) FU (by unfold FU; omega) _ (fr_r Pl _)
      refine zup (P := fun f k => ∀ τ, fr Pl (gd σm) τ → zH (f_X11_power_24 0 f (oI (bmx (fun h => tw A B (fun k => decide (k < B 48) && decide (B (6 * k) = h))) k)) (nI (bmo (fun h => tw A B (fun k => decide (k < B 48) && decide (B (6 * k) = h))) (bmx (fun h => tw A B (fun k => decide (k < B 48) && decide (B (6 * k) = h))) k))) (nI k) τ) _) (A 3) ?_ ?_
      · intro f τ hF
        have ht := hg.l hF
        rw [f_X11_power_24, mr15 ht.1, w3, cl3, ht.2.1 3 (by omega)]
        exact zH_ck (by decide) (zH_t (Int32.le_refl _) (zH_ok ⟨rfl, hF⟩))
      · intro f k hk ih τ hF
        have ht := hg.l hF
        have e1 := cle k
        have e2 := bmx_v (c := fun h => tw A B (fun k => decide (k < B 48) && decide (B (6 * k) = h))) (n := k) cle
        rw [f_X11_power_24, mr15 ht.1, w3, cl3, ht.2.1 3 (by omega)]
        refine zH_ck (by decide) (zH_f (nI_ge hk (by omega)) (zH_eq (M_linesOf ht hB.1 hA (by omega)) ?_))
        rw [lines_w _ hB.1]
        refine zH_call (M_changedWithout ht hA hB.1 _) ?_
        rintro x υ ⟨rfl, hu⟩
        have ih := ih υ (hF.tr hu)
        unfold f_X11_power_59
        rw [bmx] at ih
        by_cases e : bmo (fun h => tw A B (fun k => decide (k < B 48) && decide (B (6 * k) = h))) (bmx (fun h => tw A B (fun k => decide (k < B 48) && decide (B (6 * k) = h))) k) < tw A B (fun j => decide (j < B 48) && decide (B (6 * j) = k))
        · rw [if_pos e] at ih
          refine zH_lt (zH_t (nI_lt e (by omega)) (zH_lt (zH_lt (zH_lt ?_))))
          rw [nI_1]
          exact ih
        · rw [if_neg e] at ih
          refine zH_lt (zH_f (nI_nlt (by omega) (by omega)) (zH_lt ?_))
          rw [nI_1]
          exact ih
theorem M_why (x y : Bool) (σ : zS) : f_X11_why 0 (bI x) (bI y) σ = some ((if x then (if y then 0 else 2) else 1 : Int32), σ) := by
  unfold f_X11_why
  rw [zck_t w0]
  cases x <;> cases y <;> rfl
theorem O_doneBy : zO_doneBy Rel := by
  intro σc σm x y hR
  refine hR.q (fun b A B T hA hB hT hc hm => ?_)
  have hA1 := hA.1
  have h8 := hB.1.1
  have hg := hm.g
  have pre : f_X11_doneBy 0 x y σm = zbr ((if inR x (A 4) then (if inR y (B 48 + 1) then 0 else 2) else 1 : Int32) = 0) (zbd (f_X11_doneOf 0 7 x y 0 (gd σm)) (fun r10 σ11 => some (r10, σ11))) (zbd (f_X11_no 0 (if inR x (A 4) then (if inR y (B 48 + 1) then 0 else 2) else 1 : Int32) (gd σm)) (fun r s => some (r, s))) := by
    unfold f_X11_doneBy
    rw [zck_t w0, M_good, zbd_s, M_isMatter hg hA, zbd_s, mr19 hg.1, w7, zck_t (by decide), cl48, hg.2.2.1 48 (by omega), M_inc y (by omega), zbd_s, M_why, zbd_s, zlt_e, mr19 hg.1]
  rw [pre]
  cases hx : inR x (A 4)
  · refine ⟨-1, 1, by decide, QC_refuse ?_, QM_refuse ?_⟩
    · unfold f_X10_doneBy; rw [zck_t v0, C_isMatter hc hA, hx, zbd_s, zbr_t (by rfl), C_refuse, zbd_s]
    · rw [zbr_f (by rw [if_neg (by decide)]; decide)]; rfl
  · obtain ⟨m, hm4, rfl⟩ := inR_t hx
    cases hy : inR y (B 48 + 1)
    · refine ⟨-1, 2, by decide, QC_refuse ?_, QM_refuse ?_⟩
      · unfold f_X10_doneBy
        rw [zck_t v0, C_isMatter hc hA, hx, zbd_s, zbr_f (by decide)]
        by_cases q : y < 0
        · rw [zbr_t q]; rfl
        · obtain ⟨n, hn, rfl⟩ := nI_of q
          rw [inR_n hn] at hy
          have hy := of_decide_eq_false hy
          rw [zbr_f q, hc.r3, zck_t v32, hc.n.2.1, zbr_f (nI_ge (by omega) hn)]; rfl
      · rw [zbr_f (by decide)]; rfl
    · obtain ⟨n, hn, rfl⟩ := inR_t hy
      refine ⟨oI (vrn A B m n), 0, by decide, QC_grant ?_, QM_ans ?_⟩
      · unfold f_X10_doneBy
        rw [zck_t v0, C_isMatter hc hA, hx, zbd_s, zbr_f (by decide), zbr_f (nI_pos (by omega)), hc.r3, zck_t v32, hc.n.2.1, zbr_t (nI_le (by omega) (by omega)), C_verdictOfFirst hc hA hB.1 (by omega) (by omega), zbd_s, C_grant, zbd_s]
      · exact zH_t (by decide) (zH_call (M_vrn hg hA hB.1 (by omega) (by omega)) (fun x τ ht => zH_ok ht))
theorem O_changes : zO_changes Rel := by
  intro σc σm x hR
  refine hR.q (fun b A B T hA hB hT hc hm => ?_)
  have hA1 := hA.1
  have h8 := hB.1.1
  have hg := hm.g
  cases hx : inR x (A 4)
  · refine ⟨-1, 1, by decide, QC_refuse ?_, QM_refuse ?_⟩
    · unfold f_X10_changes; rw [zck_t v0, C_isMatter hc hA, hx, zbd_s, zbr_t (by rfl), C_refuse, zbd_s]
    · unfold f_X11_changes; rw [zck_t w0, M_good, zbd_s, M_isMatter hg hA, hx, zbd_s, zbr_t (by rfl), M_no, zbd_s]
  · obtain ⟨m, hm4, rfl⟩ := inR_t hx
    refine ⟨nI (ct (fun n => !decide (vrn A B m (n + 1) = vrn A B m n)) (B 48)), 0, by decide, QC_grant ?_, QM_ans ?_⟩
    · unfold f_X10_changes
      rw [zck_t v0, C_isMatter hc hA, hx, zbd_s, zbr_f (by decide), zlt_e, show (0 : Int32) = nI 0 from rfl, C_verdictOfFirst hc hA hB.1 (by omega) (Nat.zero_le _), zbd_s, zlt_e, zlt_e]
      refine zup (P := fun f k => f_X10_changes_26 0 f (nI m) (nI (ct (fun n => !decide (vrn A B m (n + 1) = vrn A B m n)) k)) (oI (vrn A B m k)) (nI (k + 1)) σc = _) (B 48) ?_ ?_ 0 (Nat.zero_le _) FU (by unfold FU; omega)
      · intro f
        rw [f_X10_changes_26, hc.r3, zck_t v32, hc.n.2.1, zbr_t (nI_lt (by omega) (by omega)), C_grant, zbd_s]
        rfl
      · intro f k hk ih
        rw [f_X10_changes_26, hc.r3, zck_t v32, hc.n.2.1, zbr_f (nI_nlt (by omega) (by omega)), C_verdictOfFirst hc hA hB.1 (by omega) (by omega), zbd_s, zlt_e]
        unfold f_X10_changes_56
        rw [ct] at ih
        by_cases q : vrn A B m (k + 1) = vrn A B m k
        · rw [decide_eq_true q, if_neg (by decide), Nat.add_zero] at ih
          rw [zbr_t (by rw [q]), zlt_e, zlt_e, nI_1]
          exact ih
        · rw [decide_eq_false q, if_pos (by decide)] at ih
          rw [zbr_f (fun z => q ((oI_inj (fun _ => vrn_le hB.1 (by omega)) (fun _ => vrn_le hB.1 (by omega))).mp z)), zlt_e, zlt_e, zlt_e, nI_1, nI_1]
          exact ih
    · unfold f_X11_changes
      refine zH_ck w0 (zH_eq (M_good _) (zH_eq (M_isMatter hg hA _) ?_))
      rw [hx]
      refine zH_f (by decide) (zH_lt (zH_lt ?_))
      suffices key : ∀ k, k ≤ B 48 → ∀ f, B 48 - k < f → ∀ τ, fr Pl (gd σm) τ → zH (f_X11_changes_22 0 f (nI m) (nI (ct (fun n => !decide (vrn A B m (n + 1) = vrn A B m n)) k)) (nI (k + 1)) τ) (fun x σ' => x = nI (ct (fun n => !decide (vrn A B m (n + 1) = vrn A B m n)) (B 48)) ∧ fr Pl (gd σm) σ') from key 0 (Nat.zero_le _) FU (by unfold FU; omega) _ (fr_r Pl _)
      refine zup (P := fun f k => ∀ τ, fr Pl (gd σm) τ → zH (f_X11_changes_22 0 f (nI m) (nI (ct (fun n => !decide (vrn A B m (n + 1) = vrn A B m n)) k)) (nI (k + 1)) τ) _) (B 48) ?_ ?_
      · intro f τ hF
        have ht := hg.l hF
        rw [f_X11_changes_22, mr19 ht.1, w7, cl48, ht.2.2.1 48 (by omega)]
        exact zH_ck (by decide) (zH_t (nI_lt (by omega) (by omega)) (zH_ok ⟨rfl, hF⟩))
      · intro f k hk ih τ hF
        have ht := hg.l hF
        rw [f_X11_changes_22, mr19 ht.1, w7, cl48, ht.2.2.1 48 (by omega)]
        refine zH_ck (by decide) (zH_f (nI_nlt (by omega) (by omega)) (zH_call (M_vrn ht hA hB.1 (by omega) (by omega)) ?_))
        rintro x υ ⟨rfl, hu⟩
        have hu := hF.tr hu
        have hU := hg.l hu
        rw [mr19 hU.1, nI_pred]
        refine zH_call (M_vrn hU hA hB.1 (by omega) (by omega)) ?_
        rintro x ω ⟨rfl, hw⟩
        have ih := ih ω (hu.tr hw)
        rw [ct] at ih
        unfold f_X11_changes_66
        by_cases q : vrn A B m (k + 1) = vrn A B m k
        · rw [decide_eq_true q, if_neg (by decide)] at ih
          refine zH_t (by rw [q]) (zH_lt (zH_lt ?_))
          rw [nI_1, show (0 : Int32) = nI 0 from rfl, nI_add]
          exact ih
        · rw [decide_eq_false q, if_pos (by decide)] at ih
          refine zH_f (fun z => q ((oI_inj (fun _ => vrn_le hB.1 (by omega)) (fun _ => vrn_le hB.1 (by omega))).mp z)) (zH_lt (zH_lt ?_))
          rw [nI_1, nI_1]
          exact ih
def snc (g : Nat → Bool) : Nat → Nat
  | 0 => 0
  | n + 1 => if g n then snc g n else n + 1
theorem O_since : zO_since Rel := by
  intro σc σm x hR
  refine hR.q (fun b A B T hA hB hT hc hm => ?_)
  have hA1 := hA.1
  have h8 := hB.1.1
  have hg := hm.g
  cases hx : inR x (A 4)
  · refine ⟨-1, 1, by decide, QC_refuse ?_, QM_refuse ?_⟩
    · unfold f_X10_since; rw [zck_t v0, C_isMatter hc hA, hx, zbd_s, zbr_t (by rfl), C_refuse, zbd_s]
    · unfold f_X11_since; rw [zck_t w0, M_good, zbd_s, M_isMatter hg hA, hx, zbd_s, zbr_t (by rfl), M_no, zbd_s]
  · obtain ⟨m, hm4, rfl⟩ := inR_t hx
    refine ⟨nI (snc (fun n => decide (vrn A B m n = vrn A B m (B 48))) (B 48)), 0, by decide, QC_grant ?_, QM_ans ?_⟩
    · unfold f_X10_since
      rw [zck_t v0, C_isMatter hc hA, hx, zbd_s, zbr_f (by decide), hc.r3, zck_t v32, hc.n.2.1, C_verdictOfFirst hc hA hB.1 (by omega) (Nat.le_refl _), zbd_s, zlt_e, hc.r3, zck_t v32, hc.n.2.1, zlt_e, zlt_e]
      have key : ∀ k, k ≤ B 48 → ∀ f, k < f → f_X10_since_46 0 f (nI m) (oI (vrn A B m (B 48))) (nI k) (nI k - 1) σc = some (nI (snc (fun n => decide (vrn A B m n = vrn A B m (B 48))) k), zpi σc 0 10 0) := by
        intro k
        induction k with
        | zero =>
          intro _ f hf
          obtain ⟨f, rfl⟩ : ∃ g, f = g + 1 := ⟨f - 1, by omega⟩
          rw [f_X10_since_46, zbr_t (by decide)]
          rfl
        | succ k ih =>
          intro hk f hf
          obtain ⟨f, rfl⟩ : ∃ g, f = g + 1 := ⟨f - 1, by omega⟩
          have ih := ih (by omega) f (by omega)
          rw [f_X10_since_46, nI_pred, zbr_f (nI_pos (by omega)), C_verdictOfFirst hc hA hB.1 (by omega) (by omega), zbd_s, snc]
          by_cases q : vrn A B m k = vrn A B m (B 48)
          · rw [zbr_t (by rw [q]), zlt_e, zlt_e, ← Int32.sub_eq_add_neg, if_pos (decide_eq_true q)]
            exact ih
          · rw [zbr_f (fun z => q ((oI_inj (fun _ => vrn_le hB.1 (by omega)) (fun _ => vrn_le hB.1 (by omega))).mp z)), if_neg (by simpa using q)]
            rfl
      exact key (B 48) (Nat.le_refl _) FU (by unfold FU; omega)
    · unfold f_X11_since
      refine zH_ck w0 (zH_eq (M_good _) (zH_eq (M_isMatter hg hA _) ?_))
      rw [hx, mr19 hg.1, w7, cl48, hg.2.2.1 48 (by omega)]
      refine zH_f (by decide) (zH_ck (by decide) (zH_lt ?_))
      have key : ∀ k, k ≤ B 48 → ∀ f, k < f → ∀ τ, fr Pl (gd σm) τ → zH (f_X11_since_26 0 f (nI m) (nI k) τ) (fun x σ' => x = nI (snc (fun n => decide (vrn A B m n = vrn A B m (B 48))) k) ∧ fr Pl (gd σm) σ') := by
        intro k
        induction k with
        | zero =>
          intro _ f hf τ hF
          obtain ⟨f, rfl⟩ : ∃ g, f = g + 1 := ⟨f - 1, by omega⟩
          rw [f_X11_since_26]
          exact zH_t (by decide) (zH_ok ⟨rfl, hF⟩)
        | succ k ih =>
          intro hk f hf τ hF
          obtain ⟨f, rfl⟩ : ∃ g, f = g + 1 := ⟨f - 1, by omega⟩
          have ih := ih (by omega) f (by omega)
          have ht := hg.l hF
          rw [f_X11_since_26, mr19 ht.1, nI_pred, snc]
          refine zH_f (nI_nle (by omega) (by omega)) (zH_call (M_vrn ht hA hB.1 (by omega) (by omega)) ?_)
          rintro x υ ⟨rfl, hu⟩
          have hu := hF.tr hu
          refine zH_call (M_vr (hg.l hu) hA hB.1 (by omega)) ?_
          rintro x ω ⟨rfl, hw⟩
          have hw := hu.tr hw
          rw [← vr_n]
          by_cases q : vrn A B m k = vrn A B m (B 48)
          · refine zH_t (by rw [q]) (zH_lt ?_)
            rw [← Int32.sub_eq_add_neg, nI_pred, if_pos (decide_eq_true q)]
            exact ih ω hw
          · rw [if_neg (by simpa using q)]
            exact zH_f (fun z => q ((oI_inj (fun _ => vrn_le hB.1 (by omega)) (fun _ => vrn_le hB.1 (by omega))).mp z)) (zH_ok ⟨rfl, hw⟩)
      exact key (B 48) (Nat.le_refl _) FU (by unfold FU; omega) _ (fr_r Pl _)
theorem O_idle : zO_idle Rel := by
  intro σc σm hR
  refine hR.q (fun b A B T hA hB hT hc hm => ?_)
  have hA1 := hA.1
  have h8 := hB.1.1
  have hg := hm.g
  by_cases q : A 1 = 0
  · refine ⟨-1, 1, by decide, QC_refuse ?_, QM_refuse ?_⟩
    · unfold f_X10_idle; rw [zck_t v0, C_noLetter hc hA, decide_eq_true q, zbd_s, zbr_f (by decide), C_refuse, zbd_s]
    · unfold f_X11_idle; rw [zck_t w0, M_good, zbd_s, zbr_t ((M_hl hg).mpr q), M_no, zbd_s]
  · have hF0 : ∀ k, (fun k => rd B k && decide (tw A B (fun j => decide (j = k)) = 0)) k = (rd B k && decide (tw A B (fun j => decide (j = k)) = 0)) := fun _ => rfl
    have tle : ∀ W, tw A B W ≤ 4 := fun h => Nat.le_trans (ct_le _ _) (by omega)
    refine ⟨nI (mk (fun k => rd B k && decide (tw A B (fun j => decide (j = k)) = 0)) (B 48)), 0, by decide, QC_grant ?_, QM_ans ?_⟩
    · unfold f_X10_idle
      rw [zck_t v0, C_noLetter hc hA, decide_eq_false q, zbd_s, zbr_t (by rfl), hc.r3, zck_t v32, C_readN hc hA hB.1, zbd_s, zlt_e, zlt_e, zlt_e]
      refine zup (P := fun f k => f_X10_idle_25 0 f (nI (mk (rdB B) 8)) (nI (mk (fun k => rd B k && decide (tw A B (fun j => decide (j = k)) = 0)) k)) (nI k) σc = _) (B 48) ?_ ?_ 0 (Nat.zero_le _) FU (by unfold FU; omega)
      · intro f
        rw [f_X10_idle_25, hc.r3, zck_t v32, hc.n.2.1, zbr_t (Int32.le_refl _), C_grant, zbd_s]
      · intro f k hk ih
        have et := tle (fun j => decide (j = k))
        have er : rdB B k = rd B k := by unfold rdB; rw [decide_eq_true hk, Bool.true_and]
        rw [f_X10_idle_25, hc.r3, zck_t v32, hc.n.2.1, zbr_f (nI_ge hk (by omega)), m_get (by omega) (by omega), er]
        unfold f_X10_idle_61
        cases e : rd B k
        · rw [mk_sf (f := fun k => rd B k && decide (tw A B (fun j => decide (j = k)) = 0)) (n := k) (by simp [e])] at ih
          rw [zbr_f (by decide), zlt_e, nI_1]
          exact ih
        · rw [zbr_t (by decide), m_bit (n := 8) (by omega) (by omega), C_turnedWithout hc hA hB.1, zbd_s, ← m_bit (n := 8) (by omega) (by omega)]
          by_cases e2 : tw A B (fun j => decide (j = k)) = 0
          · rw [zbr_t (by rw [e2]; rfl), zlt_e, m_step (by omega) (by simp [e, e2]), zlt_e, nI_1]
            exact ih
          · rw [mk_sf (f := fun k => rd B k && decide (tw A B (fun j => decide (j = k)) = 0)) (n := k) (by simp [e2])] at ih
            rw [zbr_f (nI_ne0 (by omega) (by omega)), zlt_e, nI_1]
            exact ih
    · unfold f_X11_idle
      refine zH_ck w0 (zH_eq (M_good _) (zH_f (fun z => q ((M_hl hg).mp z)) (zH_lt (zH_lt ?_))))
      suffices key : ∀ k, k ≤ B 48 → ∀ f, B 48 - k < f → ∀ τ, fr Pl (gd σm) τ → zH (f_X11_idle_21 0 f (nI (mk (fun k => rd B k && decide (tw A B (fun j => decide (j = k)) = 0)) k)) (nI k) τ) (fun x σ' => x = nI (mk (fun k => rd B k && decide (tw A B (fun j => decide (j = k)) = 0)) (B 48)) ∧ fr Pl (gd σm) σ') from key 0 (Nat.zero_le _) FU (by unfold FU; omega) _ (fr_r Pl _)
      refine zup (P := fun f k => ∀ τ, fr Pl (gd σm) τ → zH (f_X11_idle_21 0 f (nI (mk (fun k => rd B k && decide (tw A B (fun j => decide (j = k)) = 0)) k)) (nI k) τ) _) (B 48) ?_ ?_
      · intro f τ hF
        have ht := hg.l hF
        rw [f_X11_idle_21, mr19 ht.1, w7, cl48, ht.2.2.1 48 (by omega)]
        exact zH_ck (by decide) (zH_t (Int32.le_refl _) (zH_ok ⟨rfl, hF⟩))
      · intro f k hk ih τ hF
        have ht := hg.l hF
        have et := tle (fun j => decide (j = k))
        rw [f_X11_idle_21, mr19 ht.1, w7, cl48, ht.2.2.1 48 (by omega)]
        refine zH_ck (by decide) (zH_f (nI_ge hk (by omega)) (zH_eq (M_isRead ht.r7 hB.1 hA.1.2.1 hk) ?_))
        unfold f_X11_idle_60 f_X11_idle_61
        cases e : rd B k
        · have ih := ih τ hF
          rw [mk_sf (f := fun k => rd B k && decide (tw A B (fun j => decide (j = k)) = 0)) (n := k) (by simp [e])] at ih
          refine zH_t (by rfl) (zH_lt (zH_lt ?_))
          rw [nI_or0, nI_1]
          exact ih
        · rw [m_bit (n := 8) (by omega) (by omega)]
          refine zH_f (by decide) (zH_call (M_changedWithout ht hA hB.1 _) ?_)
          rintro x υ ⟨rfl, hu⟩
          have ih := ih υ (hF.tr hu)
          rw [← m_bit (n := 8) (by omega) (by omega)]
          by_cases e2 : tw A B (fun j => decide (j = k)) = 0
          · refine zH_t (by rw [e2]; rfl) (zH_lt (zH_lt ?_))
            rw [m_step (by omega) (by simp [e, e2]), nI_1]
            exact ih
          · rw [mk_sf (f := fun k => rd B k && decide (tw A B (fun j => decide (j = k)) = 0)) (n := k) (by simp [e2])] at ih
            refine zH_f (nI_ne0 (by omega) (by omega)) (zH_lt (zH_lt ?_))
            rw [nI_or0, nI_1]
            exact ih
