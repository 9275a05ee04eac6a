/-! fits, fitAt, says, ask, askLeaves, judge -/
def Pcf (a k : Nat) : Prop := Pc a k ∨ Pff a k
section QF
variable {ρ : Type}
def QF (A T : Nat → Nat) (f : Option (ρ × zS)) (σ : zS) (v : ρ) (t : Int32) : Prop := zH f (fun r σ' => r = v ∧ fr Pcf σ σ' ∧ σ'.1 0 10 = t ∧ Fil A T σ'.1)
theorem QC.qf {A T : Nat → Nat} {f : Option (ρ × zS)} {σ : zS} {v : ρ} {t : Int32} (h : QC f σ v t) (hf : Fil A T σ.1) : QF A T f σ v t := by
  obtain ⟨r, σ', e, h1, h2, h3⟩ := h
  exact ⟨r, σ', e, h1, h2.mo (fun a k z => Or.inl z), h3, hf.f (fun a k z1 z2 => h2.2 a k (by unfold Pc; omega))⟩
theorem QF_g {A T : Nat → Nat} {f : Option (ρ × zS)} {σ τ : zS} {v : ρ} {t : Int32} (hF : fr Pff σ τ) (h6 : τ.1 60 6 = 1) (hk : fkn A T τ.1) (e : f = some (v, zpi τ 0 10 t)) : QF A T f σ v t :=
  ⟨_, _, e, rfl, (hF.mo (fun a k z => Or.inr z)).pi _ (Or.inl (Or.inl ⟨rfl, rfl⟩)), zpi_eq _ _ _ _, (show Fil A T τ.1 from Or.inr ⟨h6, hk⟩).f (fun a k z1 z2 => zpi_ne _ _ (by omega))⟩
theorem Rel.qf {σc σm : zS} (hR : Rel σc σm) {fc fm : Option (ρ × zS)} (h : ∀ b A B T, vA A → vP A B → vP A T → cU b A B T σc → mU A B T D0 σm → Fil A T σc.1 → ∃ v t, t ≠ 4 ∧ QF A T fc σc v t ∧ QM fm σm v t) : ∃ (r : ρ) (σc1 σm1 : zS), fc = some (r, σc1) ∧ fm = some (r, σm1) ∧ Rel σc1 σm1 := by
  obtain ⟨b, A, B, T, h1, h2, h3, h4, h5, h6, h7, h8, h9⟩ := hR
  obtain ⟨v, t, ht, ⟨r, σ1, e1, rfl, f1, t1, fl⟩, ⟨r2, σ2, e2, rfl, f2, t2⟩⟩ := h b A B T h1 h2 h3 h4 h5 h7
  refine ⟨r2, σ1, σ2, e1, e2, b, A, B, T, h1, h2, h3, h4.g f1.1 (fun a k z => f1.2 a k (by unfold Pcf Pc Pff; omega)), h5.f f2, h6.f (fun a k z => f1.2 a k (by unfold Pcf Pc Pff; omega)) (fun a k z => f2.2 a k (by unfold Pq; omega)), fl, t1.trans t2.symm, fun z => absurd (t1.symm.trans z) ht⟩
end QF
theorem Pfs_11 : ¬ Pfs 0 11 := by unfold Pfs Pl; omega
theorem fnd_iff {A T : Nat → Nat} {i n f : Nat} (hn : n < 1000) (hi : i < 2 ^ 31) : fnd A T (nI i) n = some f → f < n ∧ fitq A T f = true ∧ ct (fitq A T) f = i := by
  intro e
  obtain ⟨h1, h2, -⟩ := fi_iff.mp e
  have h2 : (fitq A T f && decide (nI (ct (fitq A T) f) = nI i)) = true := h2
  rw [Bool.and_eq_true, decide_eq_true_eq] at h2
  have := ct_le (fitq A T) f
  exact ⟨h1, h2.1, (nI_eq (by omega) hi).mp h2.2⟩
theorem fnd_ex {A T : Nat → Nat} {i : Nat} : ∀ {n : Nat}, i < ct (fitq A T) n → ∃ f, f < n ∧ fitq A T f = true ∧ ct (fitq A T) f = i
  | 0, h => absurd h (Nat.not_lt_zero i)
  | n + 1, h => by
    rw [ct] at h
    by_cases q : i < ct (fitq A T) n
    · obtain ⟨f, h1, h2⟩ := fnd_ex q
      exact ⟨f, by omega, h2⟩
    · cases e : fitq A T n
      · rw [e, if_neg (by decide)] at h; omega
      · rw [e, if_pos rfl] at h
        exact ⟨n, by omega, e, by omega⟩
theorem fnd_none {A T : Nat → Nat} {i n : Nat} (h : fnd A T (nI i) n = none) : ct (fitq A T) n ≤ i := by
  rcases Nat.lt_or_ge i (ct (fitq A T) n) with q | q
  · obtain ⟨f, h1, h2, h3⟩ := fnd_ex q
    have := fi_none.mp h f h1
    have this : (fitq A T f && decide (nI (ct (fitq A T) f) = nI i)) = false := this
    rw [h2, h3, decide_eq_true rfl] at this
    cases this
  · exact q
def mxN (F : Nat → Nat) : Nat → Nat
  | 0 => 0
  | n + 1 => if mxN F n < F n then F n else mxN F n
theorem mxN_le {F : Nat → Nat} {c : Nat} (h : ∀ k, F k ≤ c) : ∀ n, mxN F n ≤ c
  | 0 => Nat.zero_le _
  | n + 1 => by
    have := mxN_le h n
    have := h n
    rw [mxN]
    split <;> omega
def lv (A T : Nat → Nat) (k : Nat) : Nat := mxN (fun s => tly A T k s (filN A)) (2 * A 4 + 1)
theorem lv_b {A : Nat → Nat} (hA : vA A) (T : Nat → Nat) (k : Nat) : lv A T k ≤ 729 := mxN_le (fun s => Nat.le_trans (ct_le _ _) (filN_b hA)) _
theorem tly_b {A : Nat → Nat} (hA : vA A) (T : Nat → Nat) (k s : Nat) : tly A T k s (filN A) ≤ 729 := Nat.le_trans (ct_le _ _) (filN_b hA)
def askN (A T : Nat → Nat) (n : Nat) : Option Nat := if ct (fitq A T) (filN A) = 0 then none else bmn (fun _ => true) (lv A T) n
theorem askN_step (A T : Nat → Nat) (n : Nat) (h : ct (fitq A T) (filN A) ≠ 0) : askN A T (n + 1) = (match askN A T n with | none => some n | some s => if lv A T n < lv A T s then some n else some s) := by
  unfold askN
  rw [if_neg h, if_neg h, bmn]
  cases bmn (fun _ => true) (lv A T) n with
  | none => rfl
  | some s =>
    by_cases q : lv A T n < lv A T s
    · simp [q]
    · simp [q]
theorem askN_lt {A T : Nat → Nat} {n k : Nat} (h : askN A T n = some k) : k < n := by
  unfold askN at h
  by_cases q : ct (fitq A T) (filN A) = 0
  · rw [if_pos q] at h; cases h
  · rw [if_neg q] at h; exact bmn_b h
section FO
variable {b : Bool} {A B T : Nat → Nat} {σ : zS}
theorem C_mostLeft (h : cU b A B T σ) (hA : vA A) (hk : fkn A T σ.1) {k : Nat} (hk6 : k < A 6) : f_X2_mostLeft 60 (nI k) σ = some (nI (lv A T k), σ) := by
  have hA1 := hA.1
  obtain ⟨r0, r1, r2, r3, r4, r5⟩ := h.r600
  obtain ⟨f7, f8, f9, f61, f62⟩ := hk
  unfold f_X2_mostLeft lv
  rw [zck_t k60, zlt_e, zlt_e]
  refine zup (P := fun g s => f_X2_mostLeft_4 60 g (nI k) (nI (mxN (fun s => tly A T k s (filN A)) s)) (nI s) σ = _) (2 * A 4 + 1) ?_ ?_ 0 (Nat.zero_le _) FU (by unfold FU; omega)
  · intro g
    rw [f_X2_mostLeft_4, f9, zbr_t (Int32.le_refl _)]
  · intro g s hs ih
    have b1 := tly_b hA T k s
    have b2 := mxN_le (F := fun s => tly A T k s (filN A)) (c := 729) (fun s => tly_b hA T k s) s
    have e62 : σ.1 62 (9 * k + s) = nI (tly A T k s (filN A)) := f62 k hk6 s (by omega)
    rw [f_X2_mostLeft_4, f9, zbr_f (nI_ge hs (by omega)), r1, k62, px9', zck_t (zok_p (by omega) (by decide)), nI_clamp (by omega), e62, zlt_e, zlt_e, nI_1]
    rw [mxN] at ih
    by_cases q : mxN (fun s => tly A T k s (filN A)) s < tly A T k s (filN A)
    · rw [if_pos q] at ih
      rw [if_pos (nI_lt q (by omega))]
      exact ih
    · rw [if_neg q] at ih
      rw [if_neg (nI_nlt (by omega) (by omega))]
      exact ih
theorem M_leavesOf {D : Nat → Bool} (h : mU A B T D σ) (hA : vA A) (h17 : ∀ k, k < A 6 → ∀ s, s < 9 → σ.1 17 (9 * k + s) = nI (tly A T k s (filN A))) {k : Nat} (hk6 : k < A 6) : f_X11_leavesOf 0 (nI k) σ = some (nI (lv A T k), σ) := by
  have hA1 := hA.1
  unfold f_X11_leavesOf lv
  rw [zck_t w0, zlt_e, zlt_e]
  refine zup (P := fun g s => f_X11_leavesOf_4 0 g (nI k) (nI (mxN (fun s => tly A T k s (filN A)) s)) (nI s) σ = _) (2 * A 4 + 1) ?_ ?_ 0 (Nat.zero_le _) FU (by unfold FU; omega)
  · intro g
    rw [f_X11_leavesOf_4, M_choicesOf h, zbd_s, zbr_t (Int32.le_refl _)]
  · intro g s hs ih
    have b1 := tly_b hA T k s
    have b2 := mxN_le (F := fun s => tly A T k s (filN A)) (c := 729) (fun s => tly_b hA T k s) s
    rw [f_X11_leavesOf_4, M_choicesOf h, zbd_s, zbr_f (nI_ge hs (by omega)), mr36 h.1, w17, px9, zck_t (zok_p (by omega) (by decide)), nI_clamp (by omega), h17 k hk6 s (by omega)]
    unfold f_X11_leavesOf_42
    rw [mxN] at ih
    by_cases q : mxN (fun s => tly A T k s (filN A)) s < tly A T k s (filN A)
    · rw [if_pos q] at ih
      rw [zbr_f (nI_ge q (by omega)), zck_t (zok_p (by omega) (by decide)), zlt_e, zlt_e, nI_1]
      exact ih
    · rw [if_neg q] at ih
      rw [zbr_t (nI_le (by omega) (by omega)), zlt_e, zlt_e, nI_1]
      exact ih
def as7 (A T : Nat → Nat) : Option Nat → Nat
  | none => 730
  | some s => lv A T s
theorem C_lineToAsk (h : cU b A B T σ) (hA : vA A) (hk : fkn A T σ.1) : f_X2_lineToAsk 60 σ = some (oI (askN A T (A 6)), σ) := by
  have hA1 := hA.1
  have hk0 := hk
  obtain ⟨f7, f8, f9, f61, f62⟩ := hk
  have hc := Nat.le_trans (ct_le (fitq A T) (filN A)) (filN_b hA)
  unfold f_X2_lineToAsk
  rw [zck_t k60, zlt_e, zlt_e, zlt_e]
  by_cases q0 : ct (fitq A T) (filN A) = 0
  · have : askN A T (A 6) = none := if_pos q0
    rw [this]
    show f_X2_lineToAsk_9 60 (1999 + 1) (-2) 730 0 σ = some (-2, σ)
    rw [f_X2_lineToAsk_9, f8, f7, q0, zbr_t (c := nI 0 ≤ 0) (by decide)]
    by_cases z : nI (A 6) ≤ 0
    · rw [zbr_t z]
    · rw [zbr_f z]
  · suffices key : f_X2_lineToAsk_9 60 FU (oI (askN A T 0)) (nI (as7 A T (askN A T 0))) (nI 0) σ = some (oI (askN A T (A 6)), σ) by
      have e0 : askN A T 0 = none := if_neg q0
      rw [e0] at key
      exact key
    refine zup (P := fun g k => f_X2_lineToAsk_9 60 g (oI (askN A T k)) (nI (as7 A T (askN A T k))) (nI k) σ = _) (A 6) ?_ ?_ 0 (Nat.zero_le _) FU (by unfold FU; omega)
    · intro g
      rw [f_X2_lineToAsk_9, f8, zbr_t (Int32.le_refl _)]
    · intro g k hk6 ih
      have l1 := lv_b hA T k
      rw [askN_step A T k q0] at ih
      rw [f_X2_lineToAsk_9, f8, f7, zbr_f (nI_ge hk6 (by omega)), zbr_f (nI_nle (by omega) (by omega)), C_mostLeft h hA hk0 hk6, zbd_s, zlt_e]
      unfold f_X2_lineToAsk_42
      cases e : askN A T k with
      | none =>
        rw [e] at ih
        rw [zbr_f (show ¬ nI (as7 A T none) ≤ nI (lv A T k) from nI_ge (b := 730) (by omega) (by decide)), zlt_e, zlt_e, zlt_e, nI_1]
        exact ih
      | some s =>
        have l2 := lv_b hA T s
        rw [e] at ih
        have ih : f_X2_lineToAsk_9 60 g (oI (if lv A T k < lv A T s then some k else some s)) (nI (as7 A T (if lv A T k < lv A T s then some k else some s))) (nI (k + 1)) σ = _ := ih
        show zbr (nI (lv A T s) ≤ nI (lv A T k)) _ _ = _
        by_cases q : lv A T k < lv A T s
        · rw [if_pos q] at ih
          rw [zbr_f (nI_ge q (by omega)), zlt_e, zlt_e, zlt_e, nI_1]
          exact ih
        · rw [if_neg q] at ih
          rw [zbr_t (nI_le (by omega) (by omega)), zlt_e, nI_1]
          exact ih
theorem M_askOf (h : mU A B T D0 σ) (hA : vA A) (hT : vB A T) : zH (f_X11_askOf 0 σ) (fun x σ' => x = oI (askN A T (A 6)) ∧ fr Pfs σ σ' ∧ ∀ k, k < A 6 → ∀ s, s < 9 → σ'.1 17 (9 * k + s) = nI (tly A T k s (filN A))) := by
  have hA1 := hA.1
  have hc := Nat.le_trans (ct_le (fitq A T) (filN A)) (filN_b hA)
  unfold f_X11_askOf
  refine zH_ck w0 (zH_call (M_seekFits h hA hT (-1)) ?_)
  rintro x τ ⟨-, hF, h37, h17⟩
  have ht := h.f (hF.mo Pfs_Pq)
  refine zH_lt (zH_lt ⟨_, _, ?_, rfl, hF, h17⟩)
  by_cases q0 : ct (fitq A T) (filN A) = 0
  · have : askN A T (A 6) = none := if_pos q0
    rw [this]
    show f_X11_askOf_11 0 (1999 + 1) (-2) 0 τ = some (-2, τ)
    rw [f_X11_askOf_11, mr15 ht.1, w3, zck_t (by decide), cl6, ht.2.1 6 (by omega), h37, q0, zbr_t (c := nI 0 ≤ 0) (by decide)]
    by_cases z : nI (A 6) ≤ 0
    · rw [zbr_t z]
    · rw [zbr_f z]
  · suffices key : f_X11_askOf_11 0 FU (oI (askN A T 0)) (nI 0) τ = some (oI (askN A T (A 6)), τ) by
      have e0 : askN A T 0 = none := if_neg q0
      rw [e0] at key
      exact key
    refine zup (P := fun g k => f_X11_askOf_11 0 g (oI (askN A T k)) (nI k) τ = _) (A 6) ?_ ?_ 0 (Nat.zero_le _) FU (by unfold FU; omega)
    · intro g
      rw [f_X11_askOf_11, mr15 ht.1, w3, zck_t (by decide), cl6, ht.2.1 6 (by omega), zbr_t (Int32.le_refl _)]
    · intro g k hk6 ih
      have l1 := lv_b hA T k
      rw [askN_step A T k q0] at ih
      rw [f_X11_askOf_11, mr15 ht.1, w3, zck_t (by decide), cl6, ht.2.1 6 (by omega), h37, zbr_f (nI_ge hk6 (by omega)), zbr_f (nI_nle (by omega) (by omega))]
      unfold f_X11_askOf_46 f_X11_askOf_48
      cases e : askN A T k with
      | none =>
        rw [e] at ih
        rw [zbr_t (by decide), zlt_e, zlt_e, nI_1]
        exact ih
      | some s =>
        have hs := askN_lt e
        have l2 := lv_b hA T s
        rw [e] at ih
        have ih : f_X11_askOf_11 0 g (oI (if lv A T k < lv A T s then some k else some s)) (nI (k + 1)) τ = _ := ih
        show zbr (nI s < 0) _ (zbd (f_X11_leavesOf 0 (nI k) τ) (fun r3 σ4 => zbd (f_X11_leavesOf 0 (nI s) σ4) _)) = _
        rw [zbr_f (nI_pos (by omega)), M_leavesOf ht hA h17 hk6, zbd_s, M_leavesOf ht hA h17 (by omega), zbd_s]
        by_cases q : lv A T k < lv A T s
        · rw [if_pos q] at ih
          rw [zbr_f (nI_ge q (by omega)), zlt_e, zlt_e, nI_1]
          exact ih
        · rw [if_neg q] at ih
          rw [zbr_t (nI_le (by omega) (by omega)), zlt_e, nI_1]
          exact ih
end FO
theorem O_fits : zO_fits Rel := by
  intro σc σm hR
  refine hR.qf (fun b A B T hA hB hT hc hm hf => ?_)
  have hA1 := hA.1
  have hg := hm.g
  by_cases q : A 1 = 0
  · refine ⟨-1, 1, by decide, QC.qf (QC_refuse ?_) hf, QM_refuse ?_⟩
    · unfold f_X10_fits; rw [zck_t v0, C_noLetter hc hA, decide_eq_true q, zbd_s, zbr_f (by decide), C_refuse, zbd_s]
    · unfold f_X11_fits; rw [zck_t w0, M_good, zbd_s, zbr_t ((M_hl hg).mpr q), M_no, zbd_s]
  · obtain ⟨u, τ, e1, hF, h6, hk⟩ := C_find hc hA hT.1 hf
    have ht := hc.ff hF
    refine ⟨nI (ct (fitq A T) (filN A)), 0, by decide, QF_g hF h6 hk ?_, QM_ansP Pfs_Pq Pfs_11 ?_⟩
    · unfold f_X10_fits
      rw [zck_t v0, C_noLetter hc hA, decide_eq_false q, zbd_s, zbr_t (by rfl), hc.r6, zck_t k60, hc.r8, hc.r1, e1, zbd_s, ht.r6, zck_t k60, hk.1, C_grant, zbd_s]
    · unfold f_X11_fits
      refine zH_ck w0 (zH_eq (M_good _) (zH_f (fun z => q ((M_hl hg).mp z)) (zH_call (M_seekFits hg hA hT.1 (-1)) ?_)))
      rintro x υ ⟨-, hu, h37, -⟩
      exact zH_ok ⟨h37, hu⟩
theorem O_ask : zO_ask Rel := by
  intro σc σm hR
  refine hR.qf (fun b A B T hA hB hT hc hm hf => ?_)
  have hA1 := hA.1
  have hg := hm.g
  by_cases q : A 1 = 0
  · refine ⟨-1, 1, by decide, QC.qf (QC_refuse ?_) hf, QM_refuse ?_⟩
    · unfold f_X10_ask; rw [zck_t v0, C_noLetter hc hA, decide_eq_true q, zbd_s, zbr_f (by decide), C_refuse, zbd_s]
    · unfold f_X11_ask; rw [zck_t w0, M_good, zbd_s, zbr_t ((M_hl hg).mpr q), M_no, zbd_s]
  · obtain ⟨u, τ, e1, hF, h6, hk⟩ := C_find hc hA hT.1 hf
    have ht := hc.ff hF
    refine ⟨oI (askN A T (A 6)), 0, by decide, QF_g hF h6 hk ?_, QM_ansP Pfs_Pq Pfs_11 ?_⟩
    · unfold f_X10_ask
      rw [zck_t v0, C_noLetter hc hA, decide_eq_false q, zbd_s, zbr_t (by rfl), hc.r6, zck_t k60, hc.r8, hc.r1, e1, zbd_s, ht.r6, zck_t k60, C_lineToAsk ht hA hk, zbd_s, C_grant, zbd_s]
    · unfold f_X11_ask
      refine zH_ck w0 (zH_eq (M_good _) (zH_f (fun z => q ((M_hl hg).mp z)) (zH_call (M_askOf hg hA hT.1) ?_)))
      rintro x υ ⟨rfl, hu, -⟩
      exact zH_ok ⟨rfl, hu⟩
theorem O_askLeaves : zO_askLeaves Rel := by
  intro σc σm hR
  refine hR.qf (fun b A B T hA hB hT hc hm hf => ?_)
  have hA1 := hA.1
  have hg := hm.g
  by_cases q : A 1 = 0
  · refine ⟨-1, 1, by decide, QC.qf (QC_refuse ?_) hf, QM_refuse ?_⟩
    · unfold f_X10_askLeaves; rw [zck_t v0, C_noLetter hc hA, decide_eq_true q, zbd_s, zbr_f (by decide), C_refuse, zbd_s]
    · unfold f_X11_askLeaves; rw [zck_t w0, M_good, zbd_s, zbr_t ((M_hl hg).mpr q), M_no, zbd_s]
  · obtain ⟨u, τ, e1, hF, h6, hk⟩ := C_find hc hA hT.1 hf
    have ht := hc.ff hF
    refine ⟨oI ((askN A T (A 6)).map (lv A T)), 0, by decide, QF_g hF h6 hk ?_, QM_ansP Pfs_Pq Pfs_11 ?_⟩
    · unfold f_X10_askLeaves
      rw [zck_t v0, C_noLetter hc hA, decide_eq_false q, zbd_s, zbr_t (by rfl), hc.r6, zck_t k60, hc.r8, hc.r1, e1, zbd_s, ht.r6, zck_t k60, C_lineToAsk ht hA hk, zbd_s, zlt_e]
      cases e : askN A T (A 6) with
      | none => rw [zbr_t (by rfl)]; rfl
      | some k =>
        have hk6 := askN_lt e
        show zbr (nI k = -2) _ (zck (WC.2 (τ.2 0 6) = (2, 0)) (zbd (f_X2_mostLeft (τ.2 0 6) (nI k) τ) _)) = _
        rw [zbr_f (nI_m2 (by omega)), ht.r6, zck_t k60, C_mostLeft ht hA hk hk6, zbd_s]
        rfl
    · unfold f_X11_askLeaves
      refine zH_ck w0 (zH_eq (M_good _) (zH_f (fun z => q ((M_hl hg).mp z)) (zH_call (M_askOf hg hA hT.1) ?_)))
      rintro x υ ⟨rfl, hu, h17⟩
      refine zH_lt ?_
      cases e : askN A T (A 6) with
      | none => exact zH_f (by decide) (zH_ok ⟨rfl, hu⟩)
      | some k =>
        have hk6 := askN_lt e
        exact zH_t (nI_pos' (by omega)) (zH_eq (M_leavesOf (hg.f (hu.mo Pfs_Pq)) hA h17 hk6) (zH_ok ⟨rfl, hu⟩))
theorem O_says : zO_says Rel := by
  intro σc σm x y hR
  refine hR.qf (fun b A B T hA hB hT hc hm hf => ?_)
  have hA1 := hA.1
  have hg := hm.g
  cases hx : inR x (A 6)
  · refine ⟨-1, 1, by decide, QC.qf (QC_refuse ?_) hf, QM_refuse ?_⟩
    · unfold f_X10_says; rw [zck_t v0, C_isHidden hc hA, hx, zbd_s, zbr_t (by rfl)]; rfl
    · unfold f_X11_says; rw [zck_t w0, M_good, zbd_s, M_isHidden hg hA, hx, zbd_s, zbr_t (by rfl)]; rfl
  · obtain ⟨k, hk6, rfl⟩ := inR_t hx
    cases hy : inR y (A 4)
    · refine ⟨-1, 1, by decide, QC.qf (QC_refuse ?_) hf, QM_refuse ?_⟩
      · unfold f_X10_says; rw [zck_t v0, C_isHidden hc hA, hx, zbd_s, zbr_f (by decide), C_isMatter hc hA, hy, zbd_s, zbr_t (by rfl)]; rfl
      · unfold f_X11_says; rw [zck_t w0, M_good, zbd_s, M_isHidden hg hA, hx, zbd_s, zbr_f (by decide), M_isMatter hg hA, hy, zbd_s, zbr_t (by rfl)]; rfl
    · obtain ⟨m, hm4, rfl⟩ := inR_t hy
      obtain ⟨u, τ, e1, hF, h6, hk⟩ := C_find hc hA hT.1 hf
      have ht := hc.ff hF
      obtain ⟨r0, r1, r2, r3, r4, r5⟩ := ht.r600
      have t1 : τ.1 62 (9 * k + 2 * m) = nI (tly A T k (2 * m) (filN A)) := hk.2.2.2.2 k hk6 _ (by omega)
      have t2 : τ.1 62 (9 * k + 2 * m + 1) = nI (tly A T k (2 * m + 1) (filN A)) := hk.2.2.2.2 k hk6 (2 * m + 1) (by omega)
      refine ⟨nI (tly A T k (2 * m) (filN A)) + nI (tly A T k (2 * m + 1) (filN A)), 0, by decide, QF_g hF h6 hk ?_, QM_ansP Pfs_Pq Pfs_11 ?_⟩
      · unfold f_X10_says
        rw [zck_t v0, C_isHidden hc hA, hx, zbd_s, zbr_f (by decide), C_isMatter hc hA, hy, zbd_s, zbr_f (by decide), hc.r6, zck_t k60, hc.r8, hc.r1, e1, zbd_s, zlt_e, dbl, px9', nI_1, ht.r6, zck_t k60, r1, k62, zck_t (zok_p (by omega) (by decide)), zck_t (zok_p (by omega) (by decide)), nI_clamp (by omega), nI_clamp (by omega), t1, t2, C_grant, zbd_s]
      · unfold f_X11_says
        refine zH_ck w0 (zH_eq (M_good _) (zH_eq (M_isHidden hg hA _) ?_))
        rw [hx]
        refine zH_f (by decide) (zH_eq (M_isMatter hg hA _) ?_)
        rw [hy]
        refine zH_f (by decide) (zH_call (M_seekFits hg hA hT.1 (-1)) ?_)
        rintro z υ ⟨-, hu, -, h17⟩
        rw [mr36 (hu.1.trans hg.1), w17, dbl, px9, nI_1, nI_clamp (by omega), nI_clamp (by omega), h17 k hk6 _ (by omega), Nat.add_assoc, h17 k hk6 _ (by omega)]
        exact zH_ck (zok_p (by omega) (by decide)) (zH_ck (zok_p (by omega) (by decide)) (zH_ok ⟨rfl, hu⟩))
theorem O_fitAt : zO_fitAt Rel := by
  intro σc σm x y hR
  refine hR.qf (fun b A B T hA hB hT hc hm hf => ?_)
  have hA1 := hA.1
  have hg := hm.g
  have hfil := filN_b hA
  cases hy : inR y (A 6)
  · refine ⟨-1, 1, by decide, QC.qf (QC_refuse ?_) hf, QM_refuse ?_⟩
    · unfold f_X10_fitAt; rw [zck_t v0, C_isHidden hc hA, hy, zbd_s, zbr_t (by rfl)]; rfl
    · unfold f_X11_fitAt; rw [zck_t w0, M_good, zbd_s, M_isHidden hg hA, hy, zbd_s, zbr_t (by rfl)]; rfl
  · obtain ⟨k, hk6, rfl⟩ := inR_t hy
    obtain ⟨u, τ, e1, hF, h6, hk⟩ := C_find hc hA hT.1 hf
    have ht := hc.ff hF
    obtain ⟨r0, r1, r2, r3, r4, r5⟩ := ht.r600
    have hcl := Nat.le_trans (ct_le (fitq A T) (filN A)) hfil
    by_cases q : x < 0
    · refine ⟨-1, 1, by decide, QF_g hF h6 hk ?_, QM_refuse ?_⟩
      · unfold f_X10_fitAt; rw [zck_t v0, C_isHidden hc hA, hy, zbd_s, zbr_f (by decide), hc.r6, zck_t k60, hc.r8, hc.r1, e1, zbd_s, zbr_t q]; rfl
      · unfold f_X11_fitAt; rw [zck_t w0, M_good, zbd_s, M_isHidden hg hA, hy, zbd_s, zbr_f (by decide), zbr_f (fun z => absurd q (Int32.not_lt.mpr z))]; rfl
    · obtain ⟨i, hi, rfl⟩ := nI_of q
      cases e : fnd A T (nI i) (filN A) with
      | none =>
        have hle := fnd_none e
        refine ⟨-1, 1, by decide, QF_g hF h6 hk ?_, ?_⟩
        · unfold f_X10_fitAt; rw [zck_t v0, C_isHidden hc hA, hy, zbd_s, zbr_f (by decide), hc.r6, zck_t k60, hc.r8, hc.r1, e1, zbd_s, zbr_f q, ht.r6, zck_t k60, hk.1, zbr_f (nI_nlt hle hi)]; rfl
        · unfold QM f_X11_fitAt
          refine zH_ck w0 (zH_eq (M_good _) (zH_eq (M_isHidden hg hA _) ?_))
          rw [hy]
          refine zH_f (by decide) (zH_t (nI_pos' hi) (zH_call (M_seekFits hg hA hT.1 (nI i)) ?_))
          rintro z υ ⟨rfl, hu, -, -⟩
          rw [e]
          refine zH_lt (zH_f (by decide) (zH_eq (M_no _ _) (zH_ok ⟨rfl, ?_, zpi_eq _ _ _ _⟩)))
          exact ((gd_f σm).tr (hu.mo Pfs_Pq)).pi _ (by unfold Pq; omega)
      | some f =>
        obtain ⟨g1, g2, g3⟩ := fnd_iff (show filN A < 1000 by omega) hi e
        have hlt := ct_str g2 g1
        have hfit : τ.1 61 i = nI f := by rw [← g3]; exact hk.2.2.2.1 f g1 g2
        have hd := digN_lt A f k
        refine ⟨if digN A f k = 2 * A 4 then -2 else nI (digN A f k), 0, by decide, QF_g hF h6 hk ?_, QM_ansP Pfs_Pq Pfs_11 ?_⟩
        · have hs : f_X2_saying 60 (nI i) (nI k) τ = some (nI (digN A f k), τ) := by
            unfold f_X2_saying
            rw [zck_t k60, zbr_f (nI_pos hi), hk.1, zbr_f (nI_ge (by omega) (by omega)), r0, k61, zck_t (zok_p (by omega) (by decide)), nI_clamp hi, hfit, C_digit hA hk.2.1 hk.2.2.1 (by omega) hk6, zbd_s]
          unfold f_X10_fitAt
          rw [zck_t v0, C_isHidden hc hA, hy, zbd_s, zbr_f (by decide), hc.r6, zck_t k60, hc.r8, hc.r1, e1, zbd_s, zbr_f q, ht.r6, zck_t k60, hk.1, zbr_t (nI_lt (by omega) (by omega)), hs, zbd_s, zlt_e, ht.r8, zck_t ht.k.1, ht.2.1.1.2.2.2.2.1, dbl]
          by_cases z : digN A f k = 2 * A 4
          · rw [zbr_t (by rw [z]), if_pos z]; rfl
          · rw [zbr_f (fun y => z ((nI_eq (by omega) (by omega)).mp y)), if_neg z]; rfl
        · unfold f_X11_fitAt
          refine zH_ck w0 (zH_eq (M_good _) (zH_eq (M_isHidden hg hA _) ?_))
          rw [hy]
          refine zH_f (by decide) (zH_t (nI_pos' hi) (zH_call (M_seekFits hg hA hT.1 (nI i)) ?_))
          rintro z υ ⟨rfl, hu, -, -⟩
          have hU := hg.f (hu.mo Pfs_Pq)
          rw [e]
          refine zH_lt (zH_t (nI_pos' (by omega)) (zH_eq (M_choiceOf hU hA (by omega) hk6) ?_))
          rw [mr15 hU.1, w3, cl4, hU.2.1 4 (by omega), dbl]
          refine zH_ck (by decide) ?_
          by_cases z : digN A f k = 2 * A 4
          · exact zH_t (by rw [z]) (zH_ok ⟨by rw [if_pos z], hu⟩)
          · exact zH_f (fun y => z ((nI_eq (by omega) (by omega)).mp y)) (zH_eq (M_choiceOf hU hA (by omega) hk6) (zH_ok ⟨by rw [if_neg z], hu⟩))
theorem O_judge : zO_judge Rel := by
  intro σc σm hR
  refine hR.q (fun b A B T hA hB hT hc hm => ?_)
  have hA1 := hA.1
  have hg := hm.g
  by_cases q : A 1 = 0
  · refine ⟨-1, 1, by decide, QC_refuse ?_, QM_refuse ?_⟩
    · unfold f_X10_judge; rw [zck_t v0, C_noLetter hc hA, decide_eq_true q, zbd_s, zbr_f (by decide), C_refuse, zbd_s]
    · unfold f_X11_judge; rw [zck_t w0, M_good, zbd_s, zbr_t ((M_hl hg).mpr q), M_no, zbd_s]
  · have hb : ∀ m k, vd (outr A D0) (ll T m (rd T) (T 48)) = some k → k < 2 ^ 31 := fun m k e => by have := vd_le (ll_vL hT.1 m _ (Nat.le_refl _)) e; omega
    refine ⟨oI (fi (fun m => !wq A (fun m => vd (outr A D0) (ll T m (rd T) (T 48))) m) (A 4)), 0, by decide, QC_grant ?_, QM_ans ?_⟩
    · unfold f_X10_judge
      rw [zck_t v0, C_noLetter hc hA, decide_eq_false q, zbd_s, zbr_t (by rfl), hc.r8, zck_t hc.k.1, hc.k.2.1.2.2.2.2.2.2.2.1, zlt_e, zck_t hc.t.1.1, C_read hc.t hT.1 hA1.2.1, zbd_s, zlt_e, zlt_e]
      refine zup (P := fun g k => (∀ j, j < k → (!wq A (fun m => vd (outr A D0) (ll T m (rd T) (T 48))) j) = false) → f_X10_judge_28 0 g (Lc b + 8) (nI (mk (rdB T) 8)) (nI k) σc = _) (A 4) ?_ ?_ 0 (Nat.zero_le _) FU (by unfold FU; omega) (fun j hj => absurd hj (Nat.not_lt_zero j))
      · intro g hall
        rw [f_X10_judge_28, hc.r8, zck_t hc.k.1, hc.2.1.1.2.2.2.2.1, zbr_t (Int32.le_refl _), C_grant, zbd_s, fi_none.mpr hall]
        rfl
      · intro g k hk ih hall
        have h41 := hA.2.2.2.2.2.2.2.1 k hk
        have hv := ll_vL hT.1 k (rd T) (Nat.le_refl (T 48))
        have nxt : wq A (fun m => vd (outr A D0) (ll T m (rd T) (T 48))) k = true → f_X10_judge_86 0 (f_X10_judge_28 0 g) (Lc b + 8) (nI (mk (rdB T) 8)) (nI k) σc = some (oI (fi (fun m => !wq A (fun m => vd (outr A D0) (ll T m (rd T) (T 48))) m) (A 4)), zpi σc 0 10 0) := by
          intro z
          unfold f_X10_judge_86
          rw [zlt_e, nI_1]
          exact ih (fun j hj => by
            by_cases y : j = k
            · subst y; rw [z]; rfl
            · exact hall j (by omega))
        rw [f_X10_judge_28, hc.r8, zck_t hc.k.1, hc.2.1.1.2.2.2.2.1, zbr_f (nI_ge hk (by omega)), hc.k.2.1.2.2.2.2.2.1, hc.k.2.2.1.2.2.2.2.2.1, zck_t (zok_p (by omega) (by decide)), nI_clamp (by omega), hc.2.1.2.2.2.2.1 k hk, zlt_e]
        by_cases e0 : A (41 + k) = 0
        · rw [zbr_t ((tI_m1 h41.1 h41.2).mpr e0)]
          exact nxt (by unfold wq; rw [decide_eq_true e0]; rfl)
        · rw [zbr_f (fun z => e0 ((tI_m1 h41.1 h41.2).mp z)), zck_t hc.t.1.1, C_placesOf hc.t hT.1 hA1.2.1 hA1.2.2.2.2.1 _ (by omega), zbd_s, C_dosOf hc.t hT.1 hA1.2.1 hA1.2.2.2.2.1 _ (by omega), zbd_s, rdB_ll, hc.r1, zck_t v28, C_outcome hc.o hA1.2.1 (plE_b hT.1 k _ (Nat.le_refl _)), zbd_s, vd_eq (outr_t D0 hA) (fun j hj => ⟨(hv j hj).1, (hv j hj).2.1⟩), tI_o e0 h41.1 h41.2]
          by_cases e1 : vd (outr A D0) (ll T k (rd T) (T 48)) = tO (A (41 + k))
          · rw [zbr_t (by rw [e1])]
            exact nxt (by unfold wq; rw [decide_eq_true e1, Bool.or_true])
          · rw [zbr_f (fun z => e1 ((oI_inj (fun j => tO_b h41.1) (hb k)).mp z).symm), C_grant, zbd_s, fi_iff.mpr ⟨hk, by unfold wq; rw [decide_eq_false e0, decide_eq_false e1]; rfl, hall⟩]
            rfl
    · unfold f_X11_judge
      refine zH_ck w0 (zH_eq (M_good _) (zH_f (fun z => q ((M_hl hg).mp z)) (zH_call (M_wrongBy hg hA (V := fun m => vd (outr A D0) (ll T m (rd T) (T 48))) (fun m υ hm hu => M_doneTold (hg.l hu) hA hT.1 (by omega)) hb) (fun x τ ht => zH_ok ht))))
