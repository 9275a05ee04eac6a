/-! holds -/
def hl1 (A B : Nat → Nat) (m q : Nat) : Bool := plE (ll B m (rd B) (B 48)) q || opn A B q
def hld (A B : Nat → Nat) (m p : Nat) : Bool := opn A B p && decide (room A B p = 1) && ubpq (outr A D0) (A 1) (hl1 A B m) p
section HO
variable {b : Bool} {A B T : Nat → Nat} {σ : zS}
theorem hl1_n (hB : vB A B) (m : Nat) : ∀ q, A 1 ≤ q → q < 6 → hl1 A B m q = false := fun q h1 h2 => by
  unfold hl1
  rw [plE_b hB m _ (Nat.le_refl _) q h1 h2]
  unfold opn
  rw [decide_eq_false (by omega)]; rfl
theorem oN_eq {x : Option Nat} {k : Nat} (hx : ∀ j, x = some j → j < 2 ^ 31) (hk : k < 2 ^ 31) : oN x = nI k ↔ x = some k := by
  cases x with
  | none => exact ⟨fun e => absurd e.symm (nI_m1 hk), fun e => by cases e⟩
  | some j => exact ⟨fun e => by rw [(nI_eq (hx j rfl) hk).mp e], fun e => by rw [Option.some.inj e]; rfl⟩
theorem ub_last {o : Nat → Nat → Bool} {np : Nat} {L : lT} {p s t : Nat} (ht : tourn o np) (hp : p < np) (hE : ∀ j, j < L.1 → (L.2 j).1 < np) : ub o (ap L (p, s, t)) = some L.1 ↔ ∀ q, q < np → plE L q = true → q ≠ p → o p q = true := by
  have eL : (ap L (p, s, t)).2 L.1 = (p, s, t) := if_pos rfl
  have eO : ∀ j, j < L.1 → (ap L (p, s, t)).2 j = L.2 j := fun j hj => if_neg (by omega)
  constructor
  · intro h q hq hpl hne
    obtain ⟨j, hj, e⟩ := plE_iff.mp hpl
    have h2 := ubq_iff.mp (fi_iff.mp h).2.1 j (by show j < L.1 + 1; omega) (by omega)
    unfold bts at h2
    rw [eL, eO j hj, e, if_neg hne] at h2
    have := ht.1 p q hp hq (fun z => hne z.symm)
    rw [h2] at this
    exact this
  · intro h
    refine fi_iff.mpr ⟨Nat.lt_succ_self _, ubq_iff.mpr (fun j hj hne => ?_), fun j hj => ?_⟩
    · have hj : j < L.1 + 1 := hj
      have hj : j < L.1 := by omega
      unfold bts
      rw [eL, eO j hj]
      by_cases z : (L.2 j).1 = p
      · rw [if_pos z]; exact decide_eq_false (by omega)
      · rw [if_neg z]
        have h3 := h _ (hE j hj) (plE_iff.mpr ⟨j, hj, rfl⟩) z
        have := ht.1 p _ hp (hE j hj) (fun y => z y.symm)
        rw [h3] at this
        cases e : o (L.2 j).1 p
        · rfl
        · rw [e] at this; cases this
    · cases e : ubq o (ap L (p, s, t)) j
      · rfl
      · have h2 := ubq_iff.mp e L.1 (Nat.lt_succ_self _) (by omega)
        unfold bts at h2
        rw [eL, eO j hj] at h2
        by_cases z : p = (L.2 j).1
        · have z2 : (p, s, t).1 = (L.2 j).1 := z
          rw [if_pos z2] at h2
          have := of_decide_eq_false h2
          omega
        · have z2 : ¬ (p, s, t).1 = (L.2 j).1 := z
          rw [if_neg z2] at h2
          have h3 := h _ (hE j hj) (plE_iff.mpr ⟨j, hj, rfl⟩) (fun y => z y.symm)
          have h2 : o p (L.2 j).1 = false := h2
          rw [h2] at h3; cases h3
theorem cX_1 (p q s : Nat) : cX (ap l0 (p, s, 0)) q = if p = q then 1 else 0 := by
  rw [cX_ap, cX_0, Nat.zero_add]
/-- what the reference asks for a place that holds -/
theorem hld_iff (hA : vA A) (hB : vP A B) {m p : Nat} (hp : p < A 1) (ho : opn A B p = true) : hld A B m p = true ↔ ub (outr A D0) (lw B m (ap l0 (p, 1, 0))) = some (lw B m l0).1 ∧ ∀ q, q < A 1 → cw A B (ap l0 (p, 1, 0)) q = true → q ≠ p ∧ outr A D0 q p = false := by
  have ht := outr_t D0 hA
  have hL := ll_vL hB.1 m (rd B) (Nat.le_refl _)
  rw [lw_ap, ub_last ht hp (fun j hj => by rw [lw_0] at hj ⊢; exact (hL j hj).1), lw_0]
  have hro : 0 < room A B p := by unfold opn at ho; simp at ho; exact ho.2
  unfold hld
  rw [ho, Bool.true_and, Bool.and_eq_true, decide_eq_true_eq, ubpq_iff]
  constructor
  · rintro ⟨h1, h2, h3⟩
    refine ⟨fun q hq hpl hne => h3 q hq (by unfold hl1; rw [hpl]; rfl) hne, fun q hq hc => ?_⟩
    unfold cw at hc
    rw [Bool.and_eq_true, decide_eq_true_eq, cX_1] at hc
    by_cases z : q = p
    · subst z
      rw [if_pos rfl] at hc
      omega
    · rw [if_neg (fun y => z y.symm)] at hc
      have hop : opn A B q = true := by unfold opn; rw [decide_eq_true hq, hc.1, decide_eq_true hc.2]; rfl
      have h4 := h3 q hq (by unfold hl1; rw [hop, Bool.or_true]) z
      have := ht.1 p q hp hq (fun y => z y.symm)
      rw [h4] at this
      refine ⟨z, ?_⟩
      cases e : outr A D0 q p
      · rfl
      · rw [e] at this; cases this
  · rintro ⟨h1, h2⟩
    have hr1 : room A B p = 1 := by
      rcases Nat.lt_or_ge 1 (room A B p) with y | y
      · have hf : (B 49).testBit p = false := by unfold opn at ho; simp at ho; exact ho.1.2
        have := (h2 p hp (by unfold cw; rw [hf, cX_1, if_pos rfl, decide_eq_true y]; rfl)).1
        exact absurd rfl this
      · omega
    refine ⟨hr1, by unfold hl1; rw [ho, Bool.or_true], fun q hq hM hne => ?_⟩
    unfold hl1 at hM
    rw [Bool.or_eq_true] at hM
    rcases hM with hM | hM
    · exact h1 q hq hM hne
    · have hop := hM
      unfold opn at hop
      simp at hop
      have h4 := (h2 q hq (by unfold cw; rw [cX_1, if_neg (fun y => hne y.symm), hop.1.2, decide_eq_true hop.2]; rfl)).2
      have := ht.1 p q hp hq (fun y => hne y.symm)
      rw [h4] at this
      exact this
theorem M_doesHold (h : mU A B T D0 σ) (hA : vA A) (hB : vP A B) {m p : Nat} (hm : m < 2 ^ 31) (hp : p < A 1) : zH (f_X11_doesHold 0 (nI m) (nI p) σ) (fun x σ' => x = bI (hld A B m p) ∧ fr Pw σ σ') := by
  have hA1 := hA.1
  have hb8 := hB.1.1
  unfold f_X11_doesHold
  refine zH_ck w0 (zH_lt ?_)
  have hF0 : fr Pw σ (zpi σ 0 31 0) := (fr_r Pw _).pi _ (by unfold Pw Pl Pm; omega)
  have h0 : mU A B T D0 (zpi σ 0 31 0) := h.f (hF0.mo Pw_Pq)
  refine zH_eq (M_canWrite h0 hA hB (mM_0 σ) (vX_0 _) hp (Nat.zero_le _)) ?_
  rw [cw_0 hp]
  cases ho : opn A B p
  · refine zH_t rfl (zH_ck (by decide) (zH_ok ⟨?_, hF0⟩))
    unfold hld
    rw [ho]; rfl
  · refine zH_f (by decide) ?_
    have hro : 0 < room A B p := by unfold opn at ho; simp at ho; exact ho.2
    have iff := hld_iff (m := m) hA hB hp ho
    have hX1 : vX (A 1) (ap l0 (p, 1, 0)) := vX_ap (vX_0 _) (by decide) ⟨hp, Nat.le_refl 1⟩
    have hv := lw_vL (m := m) hB.1 hX1
    refine zH_call (M_more h0.1 (mM_0 σ) (by decide) p 1 0) ?_
    rintro - τ ⟨hF, hM⟩
    have hF' : fr Pw σ τ := hF0.tr (hF.mo Pm_Pw)
    have hU := h.f (hF'.mo Pw_Pq)
    refine zH_call (M_layMore hU hA hB.1 hM hX1 hm) ?_
    rintro - υ ⟨hFu, hL⟩
    have hF2 : fr Pw σ υ := hF'.tr (hFu.mo Pl_Pw)
    have hV := hU.l hFu
    have hM2 := hM.l hFu
    refine zH_eq (M_unbeaten hV hA hL hv) ?_
    have hlen : (lw B m (ap l0 (p, 1, 0))).1 = (lw B m l0).1 + 1 := by rw [lw_ap]; rfl
    have hl12 := hL.1
    rw [hL.2.1, hlen, nI_pred]
    by_cases e1 : ub (outr A D0) (lw B m (ap l0 (p, 1, 0))) = some (lw B m l0).1
    · refine zH_t (by rw [e1]; rfl) (zH_lt ?_)
      suffices key : ∀ q, q ≤ A 1 → ∀ f, A 1 - q < f → (∀ j, j < q → cw A B (ap l0 (p, 1, 0)) j = true → j ≠ p ∧ outr A D0 j p = false) → zH (f_X11_doesHold_43 0 f (nI p) (nI q) υ) (fun x σ' => x = bI (hld A B m p) ∧ fr Pw σ σ') from key 0 (Nat.zero_le _) FU (by unfold FU; omega) (fun j hj => absurd hj (Nat.not_lt_zero j))
      refine zup (P := fun f q => (∀ j, j < q → cw A B (ap l0 (p, 1, 0)) j = true → j ≠ p ∧ outr A D0 j p = false) → zH (f_X11_doesHold_43 0 f (nI p) (nI q) υ) _) (A 1) ?_ ?_
      · intro f hall
        rw [f_X11_doesHold_43, mr15 hV.1, w3, cl1, hV.2.1 1 (by omega), iff.mpr ⟨e1, hall⟩]
        exact zH_ck (by decide) (zH_t (Int32.le_refl _) (zH_ck (by decide) (zH_ok ⟨rfl, hF2⟩)))
      · intro f q hq ih hall
        have nxt : (cw A B (ap l0 (p, 1, 0)) q = true → q ≠ p ∧ outr A D0 q p = false) → zH (f_X11_doesHold_77 0 (f_X11_doesHold_43 0 f) (nI p) (nI q) υ) (fun x σ' => x = bI (hld A B m p) ∧ fr Pw σ σ') := by
          intro z
          unfold f_X11_doesHold_77
          refine zH_lt ?_
          rw [nI_1]
          exact ih (fun j hj => by
            by_cases y : j = q
            · subst y; exact z
            · exact hall j (by omega))
        have bad : ¬ (cw A B (ap l0 (p, 1, 0)) q = true → q ≠ p ∧ outr A D0 q p = false) → hld A B m p = false := by
          intro z
          cases e : hld A B m p
          · rfl
          · exact absurd ((iff.mp e).2 q hq) z
        rw [f_X11_doesHold_43, mr15 hV.1, w3, cl1, hV.2.1 1 (by omega)]
        refine zH_ck (by decide) (zH_f (nI_ge hq (by omega)) (zH_eq (M_canWrite hV hA hB hM2 hX1 hq (by
          rw [cX_1]
          by_cases z : p = q
          · subst z; rw [if_pos rfl]; omega
          · rw [if_neg z]; omega)) ?_))
        cases hc : cw A B (ap l0 (p, 1, 0)) q
        · exact zH_t rfl (nxt (fun z => by rw [hc] at z; cases z))
        · refine zH_f (by decide) ?_
          by_cases z : q = p
          · refine zH_t (by rw [z]) (zH_ck (by decide) (zH_ok ⟨?_, hF2⟩))
            rw [bad (fun y => (y hc).1 z)]; rfl
          · refine zH_f (fun e => z ((nI_eq (by omega) (by omega)).mp e)) (zH_eq (M_doesOutrank hV hA hq hp) ?_)
            cases e2 : outr A D0 q p
            · exact zH_t rfl (nxt (fun _ => ⟨z, e2⟩))
            · refine zH_f (by decide) (zH_ck (by decide) (zH_ok ⟨?_, hF2⟩))
              rw [bad (fun y => by have := (y hc).2; rw [e2] at this; cases this)]; rfl
    · have hub : ∀ k, ub (outr A D0) (lw B m (ap l0 (p, 1, 0))) = some k → k < 2 ^ 31 := fun k e => by have := (fi_iff.mp e).1; omega
      refine zH_f (show ¬ oI (ub (outr A D0) (lw B m (ap l0 (p, 1, 0)))) = nI (lw B m l0).1 from fun z => e1 ((oI_inj (y := some (lw B m l0).1) hub (fun k e => by cases e; omega)).mp z)) (zH_ck (by decide) (zH_ok ⟨?_, hF2⟩))
      have : hld A B m p = false := by
        cases e : hld A B m p
        · rfl
        · exact absurd (iff.mp e).1 e1
      rw [this]; rfl
end HO
theorem O_holds : zO_holds Rel := by
  intro σc σm x y hR
  refine hR.q (fun b A B T hA hB hT hc hm => ?_)
  have hA1 := hA.1
  have hg := hm.g
  cases hx : inR x (A 4)
  · refine ⟨-1, 1, by decide, QC_refuse ?_, QM_refuse ?_⟩
    · unfold f_X10_holds; rw [zck_t v0, C_isMatter hc hA, hx, zbd_s, zbr_t (by rfl), C_refuse, zbd_s]
    · unfold f_X11_holds; rw [zck_t w0, M_good, zbd_s, M_isMatter hg hA, hx, zbd_s, zbr_t (by rfl), M_no, zbd_s]
  · obtain ⟨m, hmm, rfl⟩ := inR_t hx
    have ht := outr_t D0 hA
    refine ⟨nI (mk (hld A B m) (A 1)), 0, by decide, QC_grant ?_, QM_ansP Pw_Pq (by unfold Pw Pl Pm; omega) ?_⟩
    · unfold f_X10_holds
      rw [zck_t v0, C_isMatter hc hA, hx, zbd_s, zbr_f (by decide), hc.r3, zck_t v32, C_readN hc hA hB.1, zbd_s, C_placesOf hc.n hB.1 hA.1.2.1 hA.1.2.2.2.2.1 _ (by omega), zbd_s, rdB_ll, zlt_e, C_openPlaces hc hA hB, zbd_s, zlt_e, zlt_e, zlt_e]
      refine zup (P := fun f k => f_X10_holds_42 0 f (nI (mk (plE (ll B m (rd B) (B 48))) 6)) (nI (mk (opn A B) 6)) (nI (mk (hld A B m) k)) (nI k) σc = _) (A 1) ?_ ?_ 0 (Nat.zero_le _) FU (by unfold FU; omega)
      · intro f
        rw [f_X10_holds_42, hc.r8, zck_t hc.k.1, hc.2.1.1.2.1, zbr_t (Int32.le_refl _), C_grant, zbd_s]
      · intro f p hp ih
        have hr9 := room_9 (B := B) hA hp
        have skip : hld A B m p = false → f_X10_holds_112 0 (f_X10_holds_42 0 f) (nI (mk (plE (ll B m (rd B) (B 48))) 6)) (nI (mk (opn A B) 6)) (nI (mk (hld A B m) p)) (nI p) σc = some (nI (mk (hld A B m) (A 1)), zpi σc 0 10 0) := by
          intro z
          rw [mk_sf z] at ih
          unfold f_X10_holds_112
          rw [zlt_e, nI_1]
          exact ih
        rw [f_X10_holds_42, hc.r8, zck_t hc.k.1, hc.2.1.1.2.1, zbr_f (nI_ge hp (by omega)), m_get (by omega) (by omega)]
        unfold f_X10_holds_79 f_X10_holds_80
        cases ho : opn A B p
        · rw [zbr_f (by decide), zlt_e, zbr_t (by rfl)]
          exact skip (by unfold hld; rw [ho]; rfl)
        · rw [zbr_t (by rfl), C_roomAt hc hA hB hp, zbd_s]
          by_cases q1 : room A B p = 1
          · have hM : ∀ q, A 1 ≤ q → q < 6 → (plE (ll B m (rd B) (B 48)) q || opn A B q) = false := hl1_n hB.1 m
            rw [zbr_t (by rw [q1]; rfl), zlt_e, zbr_f (by decide), hc.r1, zck_t v28, m_or, C_unbeaten hc.o hA1.2.1 hM, zbd_s]
            have eu := oN_eq (x := ubp (outr A D0) (A 1) (fun q => plE (ll B m (rd B) (B 48)) q || opn A B q)) (k := p) (fun j e => by have := (fi_iff.mp e).1; omega) (by omega)
            by_cases q2 : ubpq (outr A D0) (A 1) (hl1 A B m) p = true
            · have e3 : ubp (outr A D0) (A 1) (fun q => plE (ll B m (rd B) (B 48)) q || opn A B q) = some p := (ubp_iff ht).mpr ⟨hp, q2⟩
              rw [zbr_t (eu.mpr e3), zlt_e, m_step (by omega) (show hld A B m p = true by unfold hld; rw [ho, decide_eq_true q1, q2]; rfl)]
              unfold f_X10_holds_112
              rw [zlt_e, nI_1]
              exact ih
            · rw [zbr_f (fun z => q2 ((ubp_iff ht).mp (eu.mp z)).2)]
              exact skip (by unfold hld; rw [Bool.eq_false_iff.mpr q2, Bool.and_false])
          · rw [zbr_f (show ¬ nI (room A B p) = (1 : Int32) from fun e => q1 ((nI_eq (b := 1) (by omega) (by decide)).mp e)), zlt_e, zbr_t (by rfl)]
            exact skip (by unfold hld; rw [decide_eq_false q1, Bool.and_false, Bool.false_and])
    · unfold f_X11_holds
      refine zH_ck w0 (zH_eq (M_good _) (zH_eq (M_isMatter hg hA _) ?_))
      rw [hx]
      refine zH_f (by decide) (zH_lt (zH_lt ?_))
      suffices key : ∀ k, k ≤ A 1 → ∀ f, A 1 - k < f → ∀ τ, fr Pw (gd σm) τ → zH (f_X11_holds_23 0 f (nI m) (nI (mk (hld A B m) k)) (nI k) τ) (fun x σ' => x = nI (mk (hld A B m) (A 1)) ∧ fr Pw (gd σm) σ') from key 0 (Nat.zero_le _) FU (by unfold FU; omega) _ (fr_r Pw _)
      refine zup (P := fun f k => ∀ τ, fr Pw (gd σm) τ → zH (f_X11_holds_23 0 f (nI m) (nI (mk (hld A B m) k)) (nI k) τ) _) (A 1) ?_ ?_
      · intro f τ hF
        have hu := hg.f (hF.mo Pw_Pq)
        rw [f_X11_holds_23, mr15 hu.1, w3, cl1, hu.2.1 1 (by omega)]
        exact zH_ck (by decide) (zH_t (Int32.le_refl _) (zH_ok ⟨rfl, hF⟩))
      · intro f k hk ih τ hF
        have hu := hg.f (hF.mo Pw_Pq)
        rw [f_X11_holds_23, mr15 hu.1, w3, cl1, hu.2.1 1 (by omega)]
        refine zH_ck (by decide) (zH_f (nI_ge hk (by omega)) (zH_call (M_doesHold hu hA hB (by omega) hk) ?_))
        rintro x υ ⟨rfl, hv⟩
        have ih := ih υ (hF.tr hv)
        unfold f_X11_holds_53
        cases e : hld A B m k
        · rw [mk_sf e] at ih
          refine zH_t rfl (zH_lt (zH_lt ?_))
          rw [nI_or0, nI_1]
          exact ih
        · refine zH_f (by decide) (zH_lt (zH_lt ?_))
          rw [m_step (by omega) e, nI_1]
          exact ih
