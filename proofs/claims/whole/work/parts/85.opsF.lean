/-! doneIf, wins, winsBy, holds -/
section RF
variable {b : Bool} {A B T : Nat → Nat} {σ : zS}
theorem cU.r7 (h : cU b A B T σ) : σ.2 0 7 = 67 := by rw [h.1]; simp only [RCs]
theorem cU.r67 (h : cU b A B T σ) : σ.2 67 0 = 68 := by rw [h.1]; simp only [RCs]
theorem cX_0 (p : Nat) : cX l0 p = 0 := rfl
theorem C_setDuelRooms (h : cU b A B T σ) (hA : vA A) (hB : vP A B) : zH (f_X10_setDuelRooms 0 σ) (fun _ σ' => fr (fun a _ => a = 68) σ σ' ∧ dR A B l0 σ') := by
  have hA1 := hA.1
  have pc : ∀ a k : Nat, (fun a (_ : Nat) => a = 68) a k → Pc a k := fun a k e => Or.inr (Or.inr (Or.inr e))
  unfold f_X10_setDuelRooms
  refine zH_ck v0 (zH_eq (C_openPlaces h hA hB) (zH_lt (zH_lt ?_)))
  suffices key : ∀ p, p ≤ 6 → ∀ f, 6 - p < f → ∀ τ, fr (fun a _ => a = 68) σ τ → (∀ q, q < p → τ.1 68 q = nI (if opn A B q then room A B q - cX l0 q else 0)) → zH (f_X10_setDuelRooms_7 0 f (nI (mk (opn A B) 6)) (nI p) τ) (fun _ σ' => fr (fun a _ => a = 68) σ σ' ∧ dR A B l0 σ') from key 0 (Nat.zero_le _) FU (by unfold FU; omega) σ (fr_r _ σ) (fun q hq => absurd hq (Nat.not_lt_zero q))
  refine zup (P := fun f p => ∀ τ, fr (fun a _ => a = 68) σ τ → (∀ q, q < p → τ.1 68 q = nI (if opn A B q then room A B q - cX l0 q else 0)) → zH (f_X10_setDuelRooms_7 0 f (nI (mk (opn A B) 6)) (nI p) τ) _) 6 ?_ ?_
  · intro f τ hF hd
    rw [f_X10_setDuelRooms_7]
    exact zH_t (by decide) (zH_ok ⟨hF, hd⟩)
  · intro f p hp ih τ hF hd
    have hc := h.f (hF.mo pc)
    have nxt : ∀ v : Nat, v = (if opn A B p then room A B p - cX l0 p else 0) → zH (f_X10_setDuelRooms_39 0 (f_X10_setDuelRooms_7 0 f) (nI (mk (opn A B) 6)) (nI p) 68 (nI p) (nI v) τ) (fun _ σ' => fr (fun a _ => a = 68) σ σ' ∧ dR A B l0 σ') := by
      intro v hv
      unfold f_X10_setDuelRooms_39
      rw [show WC.2 68 = (100, 6) from rfl]
      refine zH_ck (zok_p (by omega) (by decide)) (zH_lt (zH_lt ?_))
      rw [nI_1, nI_clamp (by omega)]
      refine ih _ (hF.pi _ rfl) (fun q hq => ?_)
      by_cases e : q = p
      · subst e; rw [zpi_eq, hv]
      · rw [zpi_ne _ _ (fun z => e z.2)]
        exact hd q (by omega)
    rw [f_X10_setDuelRooms_7, hc.r7, hc.r67, m_get (by omega) hp]
    refine zH_f (show ¬ (6 : Int32) ≤ nI p from nI_ge (b := 6) hp (by decide)) (zH_ck (by rfl) ?_)
    cases e : opn A B p
    · exact zH_f (by decide) (nxt 0 (by rw [e]; rfl))
    · refine zH_t rfl (zH_eq (C_roomAt hc hA hB (opn_lt e)) (nxt _ (by rw [e, cX_0, Nat.sub_zero]; rfl)))
theorem Pc68 : ∀ a k : Nat, (fun a (_ : Nat) => a = 68) a k → Pc a k := fun a k e => Or.inr (Or.inr (Or.inr e))
theorem lw_0 (B : Nat → Nat) (m : Nat) : lw B m l0 = ll B m (rd B) (B 48) := rfl
theorem QM_ansq {ρ : Type} {f : Option (ρ × zS)} {v : ρ} (h : zH f (fun r σ' => r = v ∧ fr Pw (gd σ) σ')) : QM f σ v 0 := by
  obtain ⟨r, σ', e, h1, h2⟩ := h
  exact ⟨r, σ', e, h1, (gd_f σ).tr (h2.mo Pw_Pq), (h2.2 0 11 (by unfold Pw Pl Pm; omega)).trans (gd_11 σ)⟩
theorem mM_0 (σ : zS) : mM l0 (zpi σ 0 31 0) := ⟨zpi_eq _ _ _ _, fun j hj => absurd hj (Nat.not_lt_zero j)⟩
theorem cw_0 {p : Nat} (hp : p < A 1) : cw A B l0 p = opn A B p := by
  unfold cw opn
  rw [decide_eq_true hp, cX_0, Bool.true_and]
end RF
theorem O_doneIf : zO_doneIf Rel := by
  intro σc σm x y z hR
  refine hR.q (fun b A B T hA hB hT hc hm => ?_)
  have hA1 := hA.1
  have hg := hm.g
  cases hx : inR x (A 4)
  · refine ⟨-1, 1, by decide, QC_refuse ?_, QM_refuse ?_⟩
    · unfold f_X10_doneIf; rw [zck_t v0, C_isMatter hc hA, hx, zbd_s, zbr_t (by rfl)]; rfl
    · unfold f_X11_doneIf; rw [zck_t w0, M_good, zbd_s, M_isMatter hg hA, hx, zbd_s, zbr_t (by rfl)]; rfl
  · obtain ⟨m, hm4, rfl⟩ := inR_t hx
    cases hy : inR y (A 1)
    · refine ⟨-1, 1, by decide, QC_refuse ?_, QM_refuse ?_⟩
      · unfold f_X10_doneIf; rw [zck_t v0, C_isMatter hc hA, hx, zbd_s, zbr_f (by decide), C_isPlace hc hA, hy, zbd_s, zbr_t (by rfl)]; rfl
      · unfold f_X11_doneIf; rw [zck_t w0, M_good, zbd_s, M_isMatter hg hA, hx, zbd_s, zbr_f (by decide), M_isPlace hg hA, hy, zbd_s, zbr_t (by rfl)]; rfl
    · obtain ⟨p, hp, rfl⟩ := inR_t hy
      have hf := fold_lt hA hB.1
      have hr9 := room_9 (B := B) hA hp
      have pre1 : f_X10_doneIf 0 (nI m) (nI p) z σc = zbr (bI ((B 49).testBit p) = 1) (zbd (f_X10_refuse 0 5 σc) (fun r14 σ15 => some (r14, σ15))) (zbr (1 ≤ nI (room A B p)) (zbr (z = 0) (f_X10_doneIf_121 0 0 28 (nI (mk (plE (ll B m (rd B) (B 48))) 6) ||| ((1 : Int32) <<< (nI p &&& 31))) (nI (mk (dsE (ll B m (rd B) (B 48))) 6) &&& (((1 : Int32) <<< (nI p &&& 31)) ^^^ (-1))) σc) (f_X10_doneIf_121 0 0 28 (nI (mk (plE (ll B m (rd B) (B 48))) 6) ||| ((1 : Int32) <<< (nI p &&& 31))) (nI (mk (dsE (ll B m (rd B) (B 48))) 6) ||| ((1 : Int32) <<< (nI p &&& 31))) σc)) (zbd (f_X10_refuse 0 3 σc) (fun r30 σ31 => some (r30, σ31)))) := by
        unfold f_X10_doneIf
        rw [zck_t v0, C_isMatter hc hA, hx, zbd_s, zbr_f (by decide), C_isPlace hc hA, hy, zbd_s, zbr_f (by decide), hc.r3, zck_t v32, hc.n.2.2.2.1, nI_get hf (by omega), C_roomAt hc hA hB hp, zbd_s, hc.r3, zck_t v32, C_readN hc hA hB.1, zbd_s, zlt_e, zlt_e, hc.r3, zck_t v32, C_dosOf hc.n hB.1 hA.1.2.1 hA.1.2.2.2.2.1 _ (by omega), zbd_s, zlt_e, hc.r3, zck_t v32, C_placesOf hc.n hB.1 hA.1.2.1 hA.1.2.2.2.2.1 _ (by omega), zbd_s, rdB_ll, hc.r1]
      have pre2 : f_X11_doneIf 0 (nI m) (nI p) z σm = zbr (bI ((B 49).testBit p) = 0) (zlt (zpi (gd σm) 0 31 0) (fun σ18 => zbd (f_X11_canWrite 0 (nI p) σ18) (fun r19 σ20 => zbr (r19 = 0) (zbd (f_X11_no 0 3 σ20) (fun r21 σ22 => some (r21, σ22))) (zbr (z = 0) (f_X11_doneIf_76 0 (nI m) 0 (nI p) 0 σ20) (f_X11_doneIf_76 0 (nI m) 0 (nI p) 1 σ20))))) (zbd (f_X11_no 0 5 (gd σm)) (fun r23 σ24 => some (r23, σ24))) := by
        unfold f_X11_doneIf
        rw [zck_t w0, M_good, zbd_s, M_isMatter hg hA, hx, zbd_s, zbr_f (by decide), M_isPlace hg hA, hy, zbd_s, zbr_f (by decide), mr19 hg.1, w7, zck_t (by decide), cl49, hg.2.2.1 49 (by omega), M_hasBit hf (by omega), zbd_s]
      rw [pre1, pre2]
      cases hfo : (B 49).testBit p
      · have hg0 : mU A B T D0 (zpi (gd σm) 0 31 0) := hg.f ((fr_r Pq _).pi _ (by unfold Pq; omega))
        have hM0 := mM_0 (gd σm)
        have hcan := M_canWrite hg0 hA hB hM0 (vX_0 _) hp (Nat.zero_le _)
        have ecw : cw A B l0 p = decide (0 < room A B p) := by unfold cw; rw [hfo, cX_0]; rfl
        rw [ecw] at hcan
        rw [zbr_f (c := bI false = 1) (by decide), zbr_t (c := bI false = 0) (by rfl), zlt_e, hcan, zbd_s]
        by_cases hro : 0 < room A B p
        · rw [decide_eq_true hro, zbr_t (show (1 : Int32) ≤ nI (room A B p) from nI_le (a := 1) (by omega) (by omega)), zbr_f (c := bI true = 0) (by decide)]
          -- the answer, for either way of saying
          have both : ∀ w : Bool, QC (f_X10_doneIf_121 0 0 28 (nI (mk (plE (ll B m (rd B) (B 48))) 6) ||| ((1 : Int32) <<< (nI p &&& 31))) (if w then nI (mk (dsE (ll B m (rd B) (B 48))) 6) ||| ((1 : Int32) <<< (nI p &&& 31)) else nI (mk (dsE (ll B m (rd B) (B 48))) 6) &&& (((1 : Int32) <<< (nI p &&& 31)) ^^^ (-1))) σc) σc (oI (vd (outr A D0) (lw B m (ap l0 (p, (if w then 1 else 0), 0))))) 0 ∧ QM (f_X11_doneIf_76 0 (nI m) 0 (nI p) (nI (if w then 1 else 0)) (zpi (gd σm) 0 31 0)) σm (oI (vd (outr A D0) (lw B m (ap l0 (p, (if w then 1 else 0), 0))))) 0 := by
            intro w
            have hX1 : vX (A 1) (ap l0 (p, (if w then 1 else 0), 0)) := vX_ap (vX_0 _) (by decide) ⟨hp, by show (if w = true then 1 else 0) ≤ 1; cases w <;> decide⟩
            have hv := lw_vL (m := m) hB.1 hX1
            constructor
            · refine QC_grant ?_
              unfold f_X10_doneIf_121
              have hpl := plE_lw (m := m) hB.1 hX1
              rw [lw_ap, lw_0] at hpl hv ⊢
              rw [pl_put _ _ _ _ (by omega), ds_put _ _ (8 + l0.1) w (by omega), zck_t v28, C_outcome hc.o (by omega) hpl, zbd_s, zck_t v0, vd_eq (outr_t D0 hA) (fun j hj => ⟨(hv j hj).1, (hv j hj).2.1⟩), C_grant, zbd_s]
            · refine QM_ansq ?_
              unfold f_X11_doneIf_76
              refine zH_ck w0 (zH_call (M_more hg0.1 hM0 (by decide) p (if w then 1 else 0) 0) ?_)
              rintro - τ ⟨hF, hM⟩
              have hF' : fr Pw (gd σm) τ := ((fr_r Pw _).pi _ (by unfold Pw Pl Pm; omega)).tr (hF.mo Pm_Pw)
              have hU := hg.f (hF'.mo Pw_Pq)
              refine zH_call (M_layMore hU hA hB.1 hM hX1 (by omega)) ?_
              rintro - υ ⟨hFu, hL⟩
              exact zH_eq (M_listDone (hU.l hFu) hA hL hv) (zH_ok ⟨rfl, hF'.tr (hFu.mo Pl_Pw)⟩)
          by_cases hz : z = 0
          · rw [zbr_t hz, zbr_t hz]
            exact ⟨_, 0, by decide, both false⟩
          · rw [zbr_f hz, zbr_f hz]
            exact ⟨_, 0, by decide, both true⟩
        · rw [decide_eq_false hro, zbr_f (show ¬ (1 : Int32) ≤ nI (room A B p) from nI_ge (b := 1) (by omega) (by decide)), zbr_t (c := bI false = 0) (by rfl)]
          refine ⟨-1, 3, by decide, QC_refuse rfl, ⟨_, _, rfl, rfl, ?_, zpi_eq _ _ _ _⟩⟩
          exact ((gd_f σm).pi _ (by unfold Pq; omega)).pi _ (by unfold Pq; omega)
      · rw [zbr_t (by rfl), zbr_f (by decide)]
        exact ⟨-1, 5, by decide, QC_refuse rfl, QM_refuse rfl⟩
/-- a question's end in the class, behind other changes that a question may make -/
theorem QC_g2 {σ τ : zS} {f : Option (Int32 × zS)} {x : Int32} (hF : fr Pc σ τ) (h : f = some (x, zpi τ 0 10 0)) : QC f σ x 0 := ⟨_, _, h, rfl, hF.pi _ (by unfold Pc; omega), zpi_eq _ _ _ _⟩
theorem O_wins : zO_wins Rel := by
  intro σc σm x y hR
  refine hR.q (fun b A B T hA hB hT hc hm => ?_)
  have hA1 := hA.1
  have hg := hm.g
  have i4 : f_X11_in y 0 4 (gd σm) = some (bI (inR y 5), gd σm) := M_inc y (n := 4) (by decide) _
  have pre : f_X11_wins 0 x y σm = zbr ((if inR x (A 4) then (if inR y 5 then 0 else 2) else 1 : Int32) = 0) (zbd (f_X11_playOf 0 x y (gd σm)) (fun r10 σ11 => zbr (r10 = 0) (some (0, σ11)) (some (1, σ11)))) (zbd (f_X11_no 0 (if inR x (A 4) then (if inR y 5 then 0 else 2) else 1 : Int32) (gd σm)) (fun r s => some (r, s))) := by
    unfold f_X11_wins
    rw [zck_t w0, M_good, zbd_s, M_isMatter hg hA, zbd_s, i4, zbd_s, M_why, zbd_s, zlt_e]
  rw [pre]
  cases hx : inR x (A 4)
  · refine ⟨-1, 1, by decide, QC_refuse ?_, QM_refuse ?_⟩
    · unfold f_X10_wins; rw [zck_t v0, C_isMatter hc hA, hx, zbd_s, zbr_t (by rfl), C_refuse, zbd_s]
    · rw [zbr_f (by rw [if_neg (by decide)]; decide)]; rfl
  · obtain ⟨m, hm4, rfl⟩ := inR_t hx
    cases hy : inR y 5
    · refine ⟨-1, 2, by decide, QC_refuse ?_, QM_refuse ?_⟩
      · unfold f_X10_wins
        rw [zck_t v0, C_isMatter hc hA, hx, zbd_s, zbr_f (by decide)]
        by_cases q : y < 0
        · rw [zbr_t q]; rfl
        · obtain ⟨n, hn, rfl⟩ := nI_of q
          rw [inR_n hn] at hy
          have hy := of_decide_eq_false hy
          rw [zbr_f q, zbr_f (show ¬ nI n ≤ (4 : Int32) from nI_ge (a := 4) (by omega) hn)]; rfl
      · rw [zbr_f (by decide)]; rfl
    · obtain ⟨n, hn, rfl⟩ := inR_t hy
      refine ⟨bI (win A B m n true l0), 0, by decide, ?_, QM_ansq ?_⟩
      · obtain ⟨u, τ, e1, hF, hD⟩ := C_setDuelRooms hc hA hB
        have hct := hc.f (hF.mo Pc68)
        have hw := (C_won hA hB m n l0 true τ FUR (by unfold FUR; omega) (by show 0 + n ≤ 4; omega) (vX_0 _) (fun _ _ => Nat.zero_le _) hct.o hct.r67 hD).1
        refine QC_g2 (hF.mo Pc68) ?_
        unfold f_X10_wins
        rw [zck_t v0, C_isMatter hc hA, hx, zbd_s, zbr_f (by decide), zbr_f (nI_pos (by omega)), zbr_t (show nI n ≤ (4 : Int32) from nI_le (b := 4) (by omega) (by decide)), hc.r3, zck_t v32, C_readN hc hA hB.1, zbd_s, zlt_e, e1, zbd_s, hct.r3, zck_t v32, C_placesOf hct.n hB.1 hA.1.2.1 hA.1.2.2.2.2.1 _ (by omega), zbd_s, hct.r3, zck_t v32, C_dosOf hct.n hB.1 hA.1.2.1 hA.1.2.2.2.2.1 _ (by omega), zbd_s, rdB_ll, hct.r7, zck_t (by rfl), hct.r1]
        rw [lw_0] at hw
        have hw : f_X1_wonByOne FUR 67 28 (nI (mk (plE (ll B m (rd B) (B 48))) 6)) (nI (mk (dsE (ll B m (rd B) (B 48))) 6)) (nI n) 1 τ = some (bI (win A B m n true l0), τ) := hw
        rw [hw, zbd_s, zlt_e]
        cases win A B m n true l0 <;> rfl
      · refine zH_t (by decide) (zH_bd ?_)
        unfold f_X11_playOf
        refine zH_ck w0 (zH_lt (zH_lt ?_))
        have hF2 : fr Pw (gd σm) (zpi (zpi (gd σm) 0 32 (-2)) 0 31 0) := ((fr_r Pw _).pi _ (by unfold Pw Pl Pm; omega)).pi _ (by unfold Pw Pl Pm; omega)
        have hw := M_win (T := T) (m := m) hA hB (by omega) (n := n) (by omega) n 0 l0 (zpi (zpi (gd σm) 0 32 (-2)) 0 31 0) FUR (by unfold FUR; omega) (by omega) (by show 0 + n ≤ 4; omega) (vX_0 _) (fun _ _ => Nat.zero_le _) (hg.f (hF2.mo Pw_Pq)) (mM_0 _)
        refine zH_call hw ?_
        rintro x τ ⟨rfl, -, hF, -⟩
        refine zH_ck (bI_z _) (zH_ok ?_)
        have hF3 := hF2.tr hF
        show zH (zbr (bI (win A B m n true l0) = 0) (some (0, τ)) (some (1, τ))) _
        cases e : win A B m n true l0
        · exact zH_t rfl (zH_ok ⟨rfl, hF3⟩)
        · exact zH_f (by decide) (zH_ok ⟨rfl, hF3⟩)
theorem O_winsBy : zO_winsBy Rel := by
  intro σc σm x y hR
  refine hR.q (fun b A B T hA hB hT hc hm => ?_)
  have hA1 := hA.1
  have hg := hm.g
  have i4 : f_X11_in y 1 4 (gd σm) = some (bI (inR y 5 && !decide (y = 0)), gd σm) := by
    unfold f_X11_in
    by_cases q : y < 0
    · rw [inR_neg q, zbr_t (Int32.lt_iff_toInt_lt.mpr (by have := Int32.lt_iff_toInt_lt.mp q; have h0 : (0 : Int32).toInt = 0 := (by decide); have h1 : (1 : Int32).toInt = 1 := (by decide); omega))]
      rfl
    · obtain ⟨n, hn, rfl⟩ := nI_of q
      rw [inR_n hn]
      by_cases h0 : n = 0
      · subst h0
        rw [zbr_t (by decide)]; rfl
      · rw [zbr_f (show ¬ nI n < (1 : Int32) from nI_nlt (b := 1) (by omega) hn), decide_eq_false (show ¬ nI n = 0 from nI_ne0 (by omega) hn)]
        by_cases h5 : n < 5
        · rw [zbr_f (show ¬ (4 : Int32) < nI n from nI_nlt (a := 4) (by omega) (by decide)), decide_eq_true h5]; rfl
        · rw [zbr_t (show (4 : Int32) < nI n from nI_lt (a := 4) (by omega) hn), decide_eq_false h5]; rfl
  have pre : f_X11_winsBy 0 x y σm = zbr ((if inR x (A 4) then (if (inR y 5 && !decide (y = 0)) then 0 else 2) else 1 : Int32) = 0) (zbd (f_X11_playOf 0 x y (gd σm)) (fun r10 σ11 => zbr (r10 = 0) (some (-2, σ11)) (some (σ11.1 0 32, σ11)))) (zbd (f_X11_no 0 (if inR x (A 4) then (if (inR y 5 && !decide (y = 0)) then 0 else 2) else 1 : Int32) (gd σm)) (fun r s => some (r, s))) := by
    unfold f_X11_winsBy
    rw [zck_t w0, M_good, zbd_s, M_isMatter hg hA, zbd_s, i4, zbd_s, M_why, zbd_s, zlt_e]
  rw [pre]
  cases hx : inR x (A 4)
  · refine ⟨-1, 1, by decide, QC_refuse ?_, QM_refuse ?_⟩
    · unfold f_X10_winsBy; rw [zck_t v0, C_isMatter hc hA, hx, zbd_s, zbr_t (by rfl), C_refuse, zbd_s]
    · rw [zbr_f (by rw [if_neg (by decide)]; decide)]; rfl
  · obtain ⟨m, hm4, rfl⟩ := inR_t hx
    cases hy : (inR y 5 && !decide (y = 0))
    · refine ⟨-1, 2, by decide, QC_refuse ?_, QM_refuse ?_⟩
      · unfold f_X10_winsBy
        rw [zck_t v0, C_isMatter hc hA, hx, zbd_s, zbr_f (by decide)]
        by_cases q : y < 1
        · rw [zbr_t q]; rfl
        · have q0 : ¬ y < 0 := fun z => q (Int32.lt_iff_toInt_lt.mpr (by have := Int32.lt_iff_toInt_lt.mp z; have h0 : (0 : Int32).toInt = 0 := (by decide); have h1 : (1 : Int32).toInt = 1 := (by decide); omega))
          obtain ⟨n, hn, rfl⟩ := nI_of q0
          have hn1 : ¬ n = 0 := fun z => q (by rw [z]; decide)
          rw [inR_n hn, decide_eq_false (show ¬ nI n = 0 from nI_ne0 (by omega) hn), Bool.not_false, Bool.and_true] at hy
          have hy := of_decide_eq_false hy
          rw [zbr_f q, zbr_f (show ¬ nI n ≤ (4 : Int32) from nI_ge (a := 4) (by omega) hn)]; rfl
      · rw [zbr_f (by decide)]; rfl
    · rw [Bool.and_eq_true] at hy
      obtain ⟨n, hn, rfl⟩ := inR_t hy.1
      have hn0 : ¬ n = 0 := fun z => by have := hy.2; rw [z] at this; revert this; decide
      obtain ⟨d, rfl⟩ : ∃ d, n = d + 1 := ⟨n - 1, by omega⟩
      refine ⟨oI (fmw A B m true l0 (d + 1)), 0, by decide, ?_, QM_ansq ?_⟩
      · obtain ⟨u, τ, e1, hF, hD⟩ := C_setDuelRooms hc hA hB
        have hct := hc.f (hF.mo Pc68)
        have hw0 := (C_won hA hB m d l0 false τ FUR (by unfold FUR; omega) (by show 0 + d ≤ 4; omega) (vX_0 _) (fun _ _ => Nat.zero_le _) hct.o hct.r67 hD).1
        have hbe := (C_won hA hB m (d + 1) l0 true τ FUR (by unfold FUR; omega) (by show 0 + (d + 1) ≤ 4; omega) (vX_0 _) (fun _ _ => Nat.zero_le _) hct.o hct.r67 hD).2 FUR
        refine QC_g2 (hF.mo Pc68) ?_
        unfold f_X10_winsBy
        rw [zck_t v0, C_isMatter hc hA, hx, zbd_s, zbr_f (by decide), zbr_f (show ¬ nI (d + 1) < (1 : Int32) from nI_nlt (b := 1) (by omega) (by omega)), zbr_t (show nI (d + 1) ≤ (4 : Int32) from nI_le (b := 4) (by omega) (by decide)), hc.r3, zck_t v32, C_readN hc hA hB.1, zbd_s, zlt_e, e1, zbd_s, hct.r3, zck_t v32, C_placesOf hct.n hB.1 hA.1.2.1 hA.1.2.2.2.2.1 _ (by omega), zbd_s, hct.r3, zck_t v32, C_dosOf hct.n hB.1 hA.1.2.1 hA.1.2.2.2.2.1 _ (by omega), zbd_s, rdB_ll, hct.r7, zck_t (by rfl), hct.r1]
        rw [lw_0] at hw0 hbe
        have hfm : f_X1_firstMove 67 28 (nI (mk (plE (ll B m (rd B) (B 48))) 6)) (nI (mk (dsE (ll B m (rd B) (B 48))) 6)) (nI (d + 1)) τ = some (oI (fmw A B m true l0 (d + 1)), τ) := by
          unfold f_X1_firstMove
          have hw0 : f_X1_wonByOne FUR 67 28 (nI (mk (plE (ll B m (rd B) (B 48))) 6)) (nI (mk (dsE (ll B m (rd B) (B 48))) 6)) (nI d) 0 τ = some (bI (win A B m d false l0), τ) := hw0
          rw [zck_t (by rfl), nI_pred, hw0, zbd_s, fmw]
          cases e : win A B m d false l0
          · rw [zbr_t (by rfl), zlt_e, if_neg (by rw [Bool.not_true, e]; decide)]
            refine zup (P := fun f p => (∀ q, q < p → q < A 1 → (cw A B l0 q && decide (win A B m d (!true) (ap l0 (q, (if true then 1 else 0), 0)) = true)) = false) → f_X1_firstMove_21 67 f 28 (nI (mk (plE (ll B m (rd B) (B 48))) 6)) (nI (mk (dsE (ll B m (rd B) (B 48))) 6)) (nI (d + 1)) (nI p) τ = _) 6 ?_ ?_ 0 (Nat.zero_le _) FU (by unfold FU; omega) (fun q hq => absurd hq (Nat.not_lt_zero q))
            · intro f hall
              rw [f_X1_firstMove_21, zbr_t (by decide), fi_none.mpr (fun q hq => hall q (by omega) hq)]
              rfl
            · intro f p hp ih2 hall
              have nxt : (p < A 1 → (cw A B l0 p && decide (win A B m d (!true) (ap l0 (p, (if true then 1 else 0), 0)) = true)) = false) → f_X1_firstMove_56 67 (f_X1_firstMove_21 67 f) 28 (nI (mk (plE (ll B m (rd B) (B 48))) 6)) (nI (mk (dsE (ll B m (rd B) (B 48))) 6)) (nI (d + 1)) (nI p) τ = some (oI (fi (fun p => cw A B l0 p && decide (win A B m d (!true) (ap l0 (p, (if true then 1 else 0), 0)) = true)) (A 1)), τ) := by
                intro z
                unfold f_X1_firstMove_56
                rw [zlt_e, nI_1]
                refine ih2 (fun q h1 h2 => ?_)
                by_cases y : q = p
                · subst y; exact z h2
                · exact hall q (by omega) h2
              rw [f_X1_firstMove_21, zbr_f (show ¬ (6 : Int32) ≤ nI p from nI_ge (b := 6) hp (by decide)), hct.r67, show WC.2 68 = (100, 6) from rfl, zck_t (zok_p (by omega) (by decide)), nI_clamp (by omega), hD p hp, cX_0, Nat.sub_zero]
              by_cases hop : opn A B p = true
              · have hpn := opn_lt hop
                have hr9 := room_9 (B := B) hA hpn
                have hcw : cw A B l0 p = true := by rw [cw_0 hpn]; exact hop
                have hro : 0 < room A B p := by unfold opn at hop; simp at hop; exact hop.2
                have hb1 := hbe p (by unfold FUR; omega) hpn (by omega) hcw
                have hb1 : f_X1_wonBehind (f_X1_wonByOne FUR) 67 28 (nI (mk (plE (ll B m (rd B) (B 48))) 6)) (nI (mk (dsE (ll B m (rd B) (B 48))) 6)) (nI (d + 1)) 1 (nI p) τ = some (bI (win A B m d (!true) (ap l0 (p, (if true then 1 else 0), 0))), τ) := hb1
                rw [if_pos hop, zbr_f (nI_nle hro (by omega)), hb1, zbd_s]
                cases e2 : win A B m d (!true) (ap l0 (p, (if true then 1 else 0), 0))
                · rw [zbr_t (by rfl)]
                  exact nxt (fun _ => by rw [e2]; simp)
                · rw [zbr_f (by decide), fi_iff.mpr ⟨hpn, by rw [hcw, e2]; rfl, fun q hq => hall q hq (by omega)⟩]
                  rfl
              · rw [if_neg hop, zbr_t (by decide)]
                exact nxt (fun z => by rw [cw_0 z, Bool.eq_false_iff.mpr hop]; rfl)
          · rw [zbr_f (by decide), if_pos (by rw [Bool.not_true, e])]
            rfl
        rw [hfm, zbd_s, C_grant, zbd_s]
      · refine zH_t (by decide) (zH_bd ?_)
        unfold f_X11_playOf
        refine zH_ck w0 (zH_lt (zH_lt ?_))
        have hF2 : fr Pw (gd σm) (zpi (zpi (gd σm) 0 32 (-2)) 0 31 0) := ((fr_r Pw _).pi _ (by unfold Pw Pl Pm; omega)).pi _ (by unfold Pw Pl Pm; omega)
        have e32 : (zpi (zpi (gd σm) 0 32 (-2)) 0 31 0).1 0 32 = -2 := by rw [zpi_ne _ _ (by omega), zpi_eq]
        have hw := M_win (T := T) (m := m) hA hB (by omega) (n := d + 1) (by omega) (d + 1) 0 l0 (zpi (zpi (gd σm) 0 32 (-2)) 0 31 0) FUR (by unfold FUR; omega) (by omega) (by show 0 + (d + 1) ≤ 4; omega) (vX_0 _) (fun _ _ => Nat.zero_le _) (hg.f (hF2.mo Pw_Pq)) (mM_0 _)
        refine zH_call hw ?_
        rintro x τ ⟨rfl, -, hF, h32⟩
        refine zH_ck (bI_z _) (zH_ok ?_)
        have hF3 := hF2.tr hF
        rw [e32, if_pos rfl] at h32
        have h32 : τ.1 0 32 = oI (fmw A B m true l0 (d + 1)) := by
          rw [h32]
          cases fmw A B m true l0 (d + 1) <;> rfl
        show zH (zbr (bI (win A B m (d + 1) true l0) = 0) (some (-2, τ)) (some (τ.1 0 32, τ))) _
        cases e : win A B m (d + 1) true l0
        · refine zH_t rfl (zH_ok ⟨?_, hF3⟩)
          have : fmw A B m true l0 (d + 1) = none := by
            rw [win] at e
            rw [fmw]
            by_cases q : win A B m d (!true) l0 = true
            · rw [if_pos q]
            · rw [if_neg q]
              rw [if_neg q] at e
              cases e2 : an (fun p => cw A B l0 p && decide (win A B m d (!true) (ap l0 (p, (if true then 1 else 0), 0)) = true)) (A 1)
              · exact fi_none.mpr (an_false.mp e2)
              · rw [e2] at e; cases e
          rw [this]
          rfl
        · exact zH_f (by decide) (zH_ok ⟨h32, hF3⟩)
