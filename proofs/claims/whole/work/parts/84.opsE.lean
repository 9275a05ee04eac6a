/-! the reference's duel -/
def Pm (a k : Nat) : Prop := a = 13 ∨ a = 14 ∨ (a = 0 ∧ k = 31)
def Pw (a k : Nat) : Prop := Pl a k ∨ Pm a k ∨ (a = 0 ∧ k = 32)
theorem Pm_Pw (a k : Nat) (h : Pm a k) : Pw a k := Or.inr (Or.inl h)
theorem Pl_Pw (a k : Nat) (h : Pl a k) : Pw a k := Or.inl h
theorem Pw_Pq (a k : Nat) (h : Pw a k) : Pq a k := by unfold Pw Pl Pm at h; unfold Pq; omega
/-- what was written besides, as the reference keeps it -/
def mM (X : lT) (σ : zS) : Prop := σ.1 0 31 = nI X.1 ∧ ∀ j, j < X.1 → σ.1 13 j = nI (X.2 j).1 ∧ σ.1 14 j = nI (X.2 j).2.1
theorem mM.l {X : lT} {σ τ : zS} (h : mM X σ) (g : fr Pl σ τ) : mM X τ := ⟨(g.2 0 31 (by unfold Pl; omega)).trans h.1, fun j hj => ⟨(g.2 13 j (by unfold Pl; omega)).trans (h.2 j hj).1, (g.2 14 j (by unfold Pl; omega)).trans (h.2 j hj).2⟩⟩
theorem ct_le2 (f : Nat → Bool) {k n : Nat} (h : k ≤ n) : ct f k ≤ ct f n := by
  induction n with
  | zero => have : k = 0 := by omega
            subst this; exact Nat.le_refl _
  | succ n ih =>
    by_cases q : k = n + 1
    · subst q; exact Nat.le_refl _
    · have := ih (by omega)
      rw [ct]
      omega
section DM
variable {A B T : Nat → Nat} {σ : zS} {X : lT}
theorem M_roomNow (h : mU A B T D0 σ) (hA : vA A) (hB : vP A B) (hM : mM X σ) (hX : vX (A 1) X) {p : Nat} (hp : p < A 1) (hc : cX X p ≤ room A B p) : f_X11_roomNow 0 (nI p) σ = some (nI (room A B p - cX X p), σ) := by
  have hA1 := hA.1
  unfold f_X11_roomNow
  rw [zck_t w0, mr15 h.1, mr19 h.1, M_room h hA hB hp, zbd_s, zlt_e, zlt_e]
  refine zup (P := fun f k => f_X11_roomNow_16 0 f (nI p) (nI (room A B p - ct (fun j => decide ((X.2 j).1 = p)) k)) (nI k) σ = _) X.1 ?_ ?_ 0 (Nat.zero_le _) FU (by unfold FU; have := hX.1; omega)
  · intro f
    rw [f_X11_roomNow_16, hM.1, zbr_t (Int32.le_refl _)]
    rfl
  · intro f k hk ih
    have hx4 := hX.1
    have hxk := (hX.2 k hk).1
    have hle : ct (fun j => decide ((X.2 j).1 = p)) (k + 1) ≤ cX X p := ct_le2 _ hk
    rw [f_X11_roomNow_16, hM.1, zbr_f (nI_ge hk (by omega)), mr29 h.1, w13, zck_t (zok_p (by omega) (by decide)), nI_clamp (by omega), (hM.2 k hk).1]
    unfold f_X11_roomNow_40
    rw [ct] at ih hle
    by_cases q : (X.2 k).1 = p
    · rw [if_pos (decide_eq_true q)] at ih hle
      rw [zbr_t (by rw [q]), zlt_e, zlt_e, nI_1, show (1 : Int32) = nI 1 from rfl, nI_sub (by omega), Nat.sub_sub]
      exact ih
    · rw [if_neg (by simpa using q), Nat.add_zero] at ih
      rw [zbr_f (fun z => q ((nI_eq (by omega) (by omega)).mp z)), zlt_e, zlt_e, nI_1, show (0 : Int32) = nI 0 from rfl, nI_sub (Nat.zero_le _), Nat.sub_zero]
      exact ih
theorem M_canWrite (h : mU A B T D0 σ) (hA : vA A) (hB : vP A B) (hM : mM X σ) (hX : vX (A 1) X) {p : Nat} (hp : p < A 1) (hc : cX X p ≤ room A B p) : f_X11_canWrite 0 (nI p) σ = some (bI (cw A B X p), σ) := by
  have hA1 := hA.1
  have hf := fold_lt hA hB.1
  have hr9 := room_9 (B := B) hA hp
  unfold f_X11_canWrite cw
  rw [zck_t w0, mr19 h.1, w7, zck_t (by decide), cl49, h.2.2.1 49 (by omega), M_hasBit hf (by omega), zbd_s]
  cases (B 49).testBit p
  · rw [zbr_t (by rfl), M_roomNow h hA hB hM hX hp hc, zbd_s]
    by_cases q : cX X p < room A B p
    · rw [zbr_f (nI_nle (by omega) (by omega)), decide_eq_true q]; rfl
    · rw [zbr_t (by rw [show room A B p - cX X p = 0 by omega]; decide), decide_eq_false q]; rfl
  · rw [zbr_f (by decide)]; rfl
theorem M_more (h : σ.2 = RM) (hM : mM X σ) (h5 : X.1 < 5) (p s t : Nat) : zH (f_X11_more 0 (nI p) (nI s) σ) (fun _ σ' => fr Pm σ σ' ∧ mM (ap X (p, s, t)) σ') := by
  unfold f_X11_more
  refine zH_ck w0 ?_
  rw [mr29 h, w13, hM.1, nI_clamp (by omega)]
  refine zH_ck (zok_p (by omega) (by decide)) (zH_lt ?_)
  rw [zpi_2, mr30 h, w14, zpi_ne _ _ (by omega), hM.1, nI_clamp (by omega)]
  refine zH_ck (zok_p (by omega) (by decide)) (zH_lt (zH_lt (zH_ok ?_)))
  rw [zpi_ne _ _ (by omega), zpi_ne _ _ (by omega), hM.1, nI_1]
  refine ⟨(((fr_r Pm σ).pi _ (by unfold Pm; omega)).pi _ (by unfold Pm; omega)).pi _ (by unfold Pm; omega), zpi_eq _ _ _ _, ?_⟩
  intro j hj
  have hj : j < X.1 + 1 := hj
  show _ = nI ((if j = X.1 then (p, s, t) else X.2 j)).1 ∧ _ = nI ((if j = X.1 then (p, s, t) else X.2 j)).2.1
  by_cases e : j = X.1
  · subst e
    simp [zpi_1]
  · rw [if_neg e]
    have := hM.2 j (by omega)
    simp [zpi_1, e, this]
theorem M_layMore (h : mU A B T D0 σ) (hA : vA A) (hB : vB A B) (hM : mM X σ) (hX : vX (A 1) X) {m : Nat} (hm : m < 2 ^ 31) : zH (f_X11_layMore 0 (nI m) σ) (fun _ σ' => fr Pl σ σ' ∧ mL (lw B m X) σ') := by
  have hA1 := hA.1
  have hx4 := hX.1
  unfold f_X11_layMore
  refine zH_ck w0 ?_
  rw [mr19 h.1, w7, cl48, h.2.2.1 48 (by omega)]
  have hlay := M_layList h.1 h.r7 (by decide) hB hA.1.2.1 hA.1.2.2.2.2.1 (fun _ => false) hm (Nat.le_refl _)
  rw [mk_e] at hlay
  refine zH_ck (by decide) (zH_call hlay ?_)
  rintro - τ ⟨hF, hL⟩
  rw [ll_cong (S' := rd B) (fun k _ _ => by simp)] at hL
  refine zH_lt ?_
  have hll := ll_le B m (rd B) (B 48)
  have h8 := hB.1
  suffices key : ∀ k, k ≤ X.1 → ∀ f, X.1 - k < f → ∀ υ, fr Pl σ υ → mL (lm (ll B m (rd B) (B 48)) X k) υ → zH (f_X11_layMore_19 0 f (nI k) υ) (fun _ σ' => fr Pl σ σ' ∧ mL (lw B m X) σ') from key 0 (Nat.zero_le _) FU (by unfold FU; omega) τ hF hL
  refine zup (P := fun f k => ∀ υ, fr Pl σ υ → mL (lm (ll B m (rd B) (B 48)) X k) υ → zH (f_X11_layMore_19 0 f (nI k) υ) _) X.1 ?_ ?_
  · intro f υ hu hLu
    rw [f_X11_layMore_19, (hM.l hu).1]
    exact zH_t (Int32.le_refl _) (zH_ok ⟨hu, hLu⟩)
  · intro f k hk ih υ hu hLu
    have hUu := h.l hu
    have hMu := hM.l hu
    rw [f_X11_layMore_19, hMu.1, mr29 hUu.1, w13, mr30 hUu.1, w14, nI_clamp (by omega), (hMu.2 k hk).1, (hMu.2 k hk).2, show (8 : Int32) + nI k = nI (8 + k) from nI_add 8 k]
    refine zH_f (nI_ge hk (by omega)) (zH_ck (zok_p (by omega) (by decide)) (zH_ck (zok_p (by omega) (by decide)) (zH_call (M_add hUu.1 hLu (by rw [lm_len]; omega) _ _ _) ?_)))
    rintro - ω ⟨hw, hLw⟩
    refine zH_lt ?_
    rw [nI_1]
    exact ih ω (hu.tr hw) hLw
theorem par2 : ∀ k, k < 5 → (nI k - nI k / (2 : Int32) * (2 : Int32)) = nI (k % 2) := by decide +kernel
theorem M_win (hA : vA A) (hB : vP A B) {m : Nat} (hm : m < 2 ^ 31) {n : Nat} (hn : n ≤ 4) : ∀ (d k : Nat) (X : lT) (σ : zS) (F : Nat), d < F → k + d = n → X.1 + d ≤ 4 → vX (A 1) X → (∀ p, p < A 1 → cX X p ≤ room A B p) → mU A B T D0 σ → mM X σ → zH (f_X11_doesWin F 0 (nI m) (nI k) (nI n) σ) (fun x σ' => x = bI (win A B m d (decide (k % 2 = 0)) X) ∧ mM X σ' ∧ fr Pw σ σ' ∧ σ'.1 0 32 = if k = 0 then (match fmw A B m true X d with | some p => nI p | none => σ.1 0 32) else σ.1 0 32) := by
  have hA1 := hA.1
  intro d
  induction d with
  | zero =>
    intro k X σ F hF hk hd hX hc h hM
    obtain ⟨F, rfl⟩ : ∃ g, F = g + 1 := ⟨F - 1, by omega⟩
    have hk : k = n := by omega
    subst hk
    have hv := lw_vL (m := m) hB.1 hX
    rw [f_X11_doesWin]
    unfold f_X11_doesWin_b
    refine zH_ck w0 (zH_t rfl (zH_call (M_layMore h hA hB.1 hM hX hm) ?_))
    rintro - τ ⟨hF1, hL⟩
    refine zH_eq (M_listDone (h.l hF1) hA hL hv) ?_
    have e32 : τ.1 0 32 = if k = 0 then (match fmw A B m true X 0 with | some p => nI p | none => σ.1 0 32) else σ.1 0 32 := by
      rw [hF1.2 0 32 (by unfold Pl; omega)]
      show σ.1 0 32 = if k = 0 then σ.1 0 32 else σ.1 0 32
      split <;> rfl
    rw [win]
    by_cases q : vd (outr A D0) (lw B m X) = some 1
    · rw [decide_eq_true q]
      exact zH_t (by rw [q]; rfl) (zH_ck (by decide) (zH_ok ⟨rfl, hM.l hF1, hF1.mo Pl_Pw, e32⟩))
    · rw [decide_eq_false q]
      exact zH_f (fun z => q ((oI_1 (fun k e => by have := vd_le hv e; omega)).mp z)) (zH_ck (by decide) (zH_ok ⟨rfl, hM.l hF1, hF1.mo Pl_Pw, e32⟩))
  | succ d ih =>
    intro k X σ F hF hk hd hX hc h hM
    obtain ⟨F, rfl⟩ : ∃ g, F = g + 1 := ⟨F - 1, by omega⟩
    have par : decide ((k + 1) % 2 = 0) = !decide (k % 2 = 0) := by
      rcases Nat.mod_two_eq_zero_or_one k with q | q
      · rw [decide_eq_true q, decide_eq_false (by omega)]; rfl
      · rw [decide_eq_true (show (k + 1) % 2 = 0 by omega), decide_eq_false (show ¬ k % 2 = 0 by omega)]; rfl
    rw [f_X11_doesWin]
    unfold f_X11_doesWin_b
    refine zH_ck w0 (zH_f (fun z => by have := (nI_eq (by omega) (by omega)).mp z; omega) (zH_ck (by decide) ?_))
    rw [par2 k (by omega)]
    generalize hw : decide (k % 2 = 0) = w at *
    -- what is common to both
    have hw0 : k = 0 → w = true := fun z => by rw [← hw, z]; rfl
    have com : zH (f_X11_doesWin_35 (f_X11_doesWin F) 0 (nI m) (nI k) (nI n) (bI w) σ) (fun x σ' => x = bI (win A B m (d + 1) w X) ∧ mM X σ' ∧ fr Pw σ σ' ∧ σ'.1 0 32 = if k = 0 then (match fmw A B m true X (d + 1) with | some p => nI p | none => σ.1 0 32) else σ.1 0 32) := by
      unfold f_X11_doesWin_35
      refine zH_lt ?_
      rw [nI_1]
      have i0 := ih (k + 1) X σ F (by omega) (by omega) (by omega) hX hc h hM
      rw [par, if_neg (show ¬ (k + 1 = 0) by omega)] at i0
      refine zH_call i0 ?_
      rintro x τ ⟨rfl, hMt, hFt, e32⟩
      rw [win]
      by_cases e : win A B m d (!w) X = w
      · rw [if_pos e]
        refine zH_t (by rw [e]) (zH_ck (bI_z w) (zH_ok ⟨rfl, hMt, hFt, ?_⟩))
        rw [e32]
        by_cases z : k = 0
        · have hwt := hw0 z
          subst hwt
          rw [if_pos z, fmw, if_pos e]
        · rw [if_neg z]
      · rw [if_neg e]
        refine zH_f (fun z => e (by
          revert z
          cases win A B m d (!w) X <;> cases w <;> decide)) (zH_lt ?_)
        suffices key : ∀ p, p ≤ A 1 → ∀ f, A 1 - p < f → ∀ υ, (∀ q, q < p → (cw A B X q && decide (win A B m d (!w) (ap X (q, (if w then 1 else 0), 0)) = w)) = false) → mM X υ → fr Pw σ υ → υ.1 0 32 = σ.1 0 32 → zH (f_X11_doesWin_57 (f_X11_doesWin F) 0 f (nI m) (nI k) (nI n) (bI w) (nI p) υ) (fun x σ' => x = bI (if an (fun p => cw A B X p && decide (win A B m d (!w) (ap X (p, (if w then 1 else 0), 0)) = w)) (A 1) then w else !w) ∧ mM X σ' ∧ fr Pw σ σ' ∧ σ'.1 0 32 = if k = 0 then (match fmw A B m true X (d + 1) with | some p => nI p | none => σ.1 0 32) else σ.1 0 32) from
          key 0 (Nat.zero_le _) FU (by unfold FU; omega) τ (fun q hq => absurd hq (Nat.not_lt_zero q)) hMt hFt e32
        refine zup (P := fun f p => ∀ υ, (∀ q, q < p → (cw A B X q && decide (win A B m d (!w) (ap X (q, (if w then 1 else 0), 0)) = w)) = false) → mM X υ → fr Pw σ υ → υ.1 0 32 = σ.1 0 32 → zH (f_X11_doesWin_57 (f_X11_doesWin F) 0 f (nI m) (nI k) (nI n) (bI w) (nI p) υ) _) (A 1) ?_ ?_
        · intro f υ hall hMu hFu e32
          have hU := h.f (hFu.mo Pw_Pq)
          rw [f_X11_doesWin_57, mr15 hU.1, w3, cl1, hU.2.1 1 (by omega), an_false.mpr hall, if_neg (by decide)]
          have e32' : υ.1 0 32 = if k = 0 then (match fmw A B m true X (d + 1) with | some p => nI p | none => σ.1 0 32) else σ.1 0 32 := by
            rw [e32]
            by_cases z : k = 0
            · have hwt := hw0 z
              subst hwt
              rw [if_pos z, fmw, if_neg e, fi_none.mpr hall]
            · rw [if_neg z]
          refine zH_ck (by decide) (zH_t (Int32.le_refl _) ?_)
          cases w
          · exact zH_t rfl (zH_ck (by decide) (zH_ok ⟨rfl, hMu, hFu, e32'⟩))
          · exact zH_f (by decide) (zH_ck (by decide) (zH_ok ⟨rfl, hMu, hFu, e32'⟩))
        · intro f p hp ih2 υ hall hMu hFu e32
          have hU := h.f (hFu.mo Pw_Pq)
          have nxt : ∀ ω, (cw A B X p && decide (win A B m d (!w) (ap X (p, (if w then 1 else 0), 0)) = w)) = false → mM X ω → fr Pw σ ω → ω.1 0 32 = σ.1 0 32 → zH (f_X11_doesWin_140 (f_X11_doesWin F) 0 (f_X11_doesWin_57 (f_X11_doesWin F) 0 f) (nI m) (nI k) (nI n) (bI w) (nI p) ω) (fun x σ' => x = bI (if an (fun p => cw A B X p && decide (win A B m d (!w) (ap X (p, (if w then 1 else 0), 0)) = w)) (A 1) then w else !w) ∧ mM X σ' ∧ fr Pw σ σ' ∧ σ'.1 0 32 = if k = 0 then (match fmw A B m true X (d + 1) with | some p => nI p | none => σ.1 0 32) else σ.1 0 32) := by
            intro ω z a1 a2 a3
            unfold f_X11_doesWin_140
            refine zH_lt ?_
            rw [nI_1]
            refine ih2 ω (fun q hq => ?_) a1 a2 a3
            by_cases y : q = p
            · subst y; exact z
            · exact hall q (by omega)
          rw [f_X11_doesWin_57, mr15 hU.1, w3, cl1, hU.2.1 1 (by omega)]
          refine zH_ck (by decide) (zH_f (nI_ge hp (by omega)) (zH_eq (M_canWrite hU hA hB hMu hX hp (hc p hp)) ?_))
          cases hcw : cw A B X p
          · exact zH_t rfl (nxt υ (by rw [hcw]; rfl) hMu hFu e32)
          · have hcw2 : cX X p < room A B p := by unfold cw at hcw; simp at hcw; exact hcw.2
            refine zH_f (by decide) ?_
            have big : zH (f_X11_doesWin_93 (f_X11_doesWin F) 0 (f_X11_doesWin_57 (f_X11_doesWin F) 0 f) (nI m) (nI k) (nI n) (bI w) (nI p) 0 (nI p) (nI (if w then 1 else 0)) υ) (fun x σ' => x = bI (if an (fun p => cw A B X p && decide (win A B m d (!w) (ap X (p, (if w then 1 else 0), 0)) = w)) (A 1) then w else !w) ∧ mM X σ' ∧ fr Pw σ σ' ∧ σ'.1 0 32 = if k = 0 then (match fmw A B m true X (d + 1) with | some p => nI p | none => σ.1 0 32) else σ.1 0 32) := by
              unfold f_X11_doesWin_93
              refine zH_ck w0 (zH_call (M_more hU.1 hMu (by have := hX.1; omega) p (if w then 1 else 0) 0) ?_)
              rintro - ω ⟨hFw, hMw⟩
              have hFw' := hFu.tr (hFw.mo Pm_Pw)
              have i1 := ih (k + 1) (ap X (p, (if w then 1 else 0), 0)) ω F (by omega) (by omega) (by show X.1 + 1 + d ≤ 4; omega) (vX_ap hX (by omega) ⟨hp, by show (if w = true then 1 else 0) ≤ 1; cases w <;> decide⟩) (fun q hq => by
                rw [cX_ap]
                show cX X q + (if p = q then 1 else 0) ≤ room A B q
                by_cases z : p = q
                · subst z; rw [if_pos rfl]; omega
                · rw [if_neg z]; exact hc q hq) (h.f (hFw'.mo Pw_Pq)) hMw
              rw [par, if_neg (show ¬ (k + 1 = 0) by omega), ← nI_1] at i1
              refine zH_call i1 ?_
              rintro x ψ ⟨rfl, hMp, hFp, e32p⟩
              have hFp' := hFw'.tr hFp
              refine zH_lt (zH_lt ?_)
              have hMx : mM X (zpi ψ 0 31 (ψ.1 0 31 - 1)) := by
                refine ⟨?_, fun j hj => ?_⟩
                · rw [zpi_eq, hMp.1]
                  exact nI_pred X.1
                · have := hMp.2 j (Nat.lt_succ_of_lt hj)
                  have e1 : ((ap X (p, (if w then 1 else 0), 0)).2 j) = X.2 j := if_neg (by omega)
                  rw [e1] at this
                  rw [zpi_ne _ _ (by omega), zpi_ne _ _ (by omega)]
                  exact this
              have hFx : fr Pw σ (zpi ψ 0 31 (ψ.1 0 31 - 1)) := hFp'.pi _ (by unfold Pw Pl Pm; omega)
              have e32x : (zpi ψ 0 31 (ψ.1 0 31 - 1)).1 0 32 = σ.1 0 32 := by
                rw [zpi_ne _ _ (by omega), e32p, hFw.2 0 32 (by unfold Pm; omega), e32]
              by_cases e2 : win A B m d (!w) (ap X (p, (if w then 1 else 0), 0)) = w
              · have hq : (cw A B X p && decide (win A B m d (!w) (ap X (p, (if w then 1 else 0), 0)) = w)) = true := by rw [hcw, decide_eq_true e2]; rfl
                rw [an_iff.mpr ⟨p, hp, hq⟩, if_pos rfl]
                refine zH_t (by rw [e2]) ?_
                by_cases z : k = 0
                · have hwt := hw0 z
                  subst hwt
                  refine zH_t (by rw [z]; rfl) (zH_lt (zH_ck (bI_z _) (zH_ok ⟨rfl, ?_, hFx.pi _ (by unfold Pw Pl Pm; omega), ?_⟩)))
                  · refine ⟨by rw [zpi_ne _ _ (by omega)]; exact hMx.1, fun j hj => ?_⟩
                    rw [zpi_ne _ _ (by omega), zpi_ne _ _ (by omega)]
                    exact hMx.2 j hj
                  · rw [zpi_eq, if_pos z, fmw, if_neg e, fi_iff.mpr ⟨hp, hq, hall⟩]
                · exact zH_f (nI_ne0 (by omega) (by omega)) (zH_ck (bI_z _) (zH_ok ⟨rfl, hMx, hFx, by rw [e32x, if_neg z]⟩))
              · refine zH_f (fun z => e2 (by
                  revert z
                  cases win A B m d (!w) (ap X (p, (if w then 1 else 0), 0)) <;> cases w <;> decide)) ?_
                exact nxt _ (by rw [decide_eq_false e2, Bool.and_false]) hMx hFx e32x
            cases w
            · exact zH_t rfl big
            · exact zH_f (by decide) big
    cases w
    · have : k % 2 = 1 := by have := of_decide_eq_false hw; omega
      rw [this]
      exact zH_f (by decide) com
    · have : k % 2 = 0 := of_decide_eq_true hw
      rw [this]
      exact zH_t rfl com
end DM
