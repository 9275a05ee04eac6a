/-! thumbs, smudged -/
def d1N (d : Nat) : Nat := (75 * d + 74) % 65537
def smg (w n : Nat) : Nat → Nat → Nat × (Nat → Bool)
  | 0, d => (d, fun _ => false)
  | i + 1, d => if w ≤ d1N (smg w n i d).1 % 100 ∨ n = 0 then (d1N (smg w n i d).1, (smg w n i d).2) else (d1N (d1N (smg w n i d).1), fun j => (smg w n i d).2 j || decide (j = d1N (d1N (smg w n i d).1) % n))
theorem d1N_lt (d : Nat) : d1N d < 65537 := Nat.mod_lt _ (by decide)
theorem smg_lt (w n : Nat) {d : Nat} (hd : d < 65537) : ∀ i, (smg w n i d).1 < 65537
  | 0 => hd
  | i + 1 => by
    rw [smg]
    split
    · exact d1N_lt _
    · exact d1N_lt _
theorem drw {d : Nat} (hd : d < 65537) : (((75 : Int32) * nI d) + (74 : Int32)) - (((75 : Int32) * nI d) + (74 : Int32)) / (65537 : Int32) * (65537 : Int32) = nI (d1N d) := by
  have e : ((75 : Int32) * nI d) + (74 : Int32) = nI (75 * d + 74) := by show nI 75 * nI d + nI 74 = _; rw [nI_mul, nI_add]
  rw [e]
  exact pk_rem (d := 65537) (by omega) (by decide) (by decide)
theorem rem100 {d : Nat} (hd : d < 65537) : nI d - nI d / (100 : Int32) * (100 : Int32) = nI (d % 100) := pk_rem (d := 100) (by omega) (by decide) (by decide)
def P39 (a k : Nat) : Prop := a = 0 ∧ k = 39
theorem P39_Pq (a k : Nat) (h : P39 a k) : Pq a k := by unfold P39 at h; unfold Pq; omega
section TH
variable {b : Bool} {A B T : Nat → Nat} {D : Nat → Bool} {σ : zS}
theorem C_isThumbs (x y : Int32) (σ : zS) : f_X10_isThumbs x y σ = some (bI (inR x 65537 && inR y 61), σ) := by
  unfold f_X10_isThumbs
  by_cases q : x < 0
  · rw [zbr_t q, inR_neg q]; rfl
  · obtain ⟨j, hj, rfl⟩ := nI_of q
    rw [zbr_f q, inR_n hj]
    by_cases h : j < 65537
    · rw [zbr_f (show ¬ (65537 : Int32) ≤ nI j from nI_ge (b := 65537) h (by decide)), decide_eq_true h, Bool.true_and]
      by_cases q : y < 0
      · rw [zbr_t q, inR_neg q]; rfl
      · obtain ⟨k, hk, rfl⟩ := nI_of q
        rw [zbr_f q, inR_n hk]
        by_cases h : k < 61
        · rw [zbr_f (show ¬ (60 : Int32) < nI k from nI_nlt (a := 60) (by omega) (by decide)), decide_eq_true h]; rfl
        · rw [zbr_t (show (60 : Int32) < nI k from nI_lt (a := 60) (by omega) hk), decide_eq_false h]; rfl
    · rw [zbr_t (show (65537 : Int32) ≤ nI j from nI_le (a := 65537) (by omega) hj), decide_eq_false h]; rfl
theorem C_smudge (h : cU b A B T σ) (hA : vA A) (hB : vB A B) {d N : Nat} (hd : d < 65537) (hN : N < 61) : f_X10_smudge 0 (nI d) (nI N) σ = some (nI (mk (smg (A 0) (B 48) N d).2 8), σ) := by
  have hA1 := hA.1
  have h8 := hB.1
  unfold f_X10_smudge
  rw [zck_t v0, zlt_e, zlt_e, zlt_e]
  suffices key : f_X10_smudge_8 0 FU (nI N) (nI (smg (A 0) (B 48) 0 d).1) (nI (mk (smg (A 0) (B 48) 0 d).2 8)) (nI 0) σ = some (nI (mk (smg (A 0) (B 48) N d).2 8), σ) by
    rw [show (smg (A 0) (B 48) 0 d).2 = fun _ => false from rfl, mk_e] at key
    exact key
  refine zup (P := fun f i => f_X10_smudge_8 0 f (nI N) (nI (smg (A 0) (B 48) i d).1) (nI (mk (smg (A 0) (B 48) i d).2 8)) (nI i) σ = _) N ?_ ?_ 0 (Nat.zero_le _) FU (by unfold FU; omega)
  · intro f
    rw [f_X10_smudge_8, zbr_t (Int32.le_refl _)]
  · intro f i hi ih
    have hl := smg_lt (A 0) (B 48) hd i
    have hl1 := d1N_lt (smg (A 0) (B 48) i d).1
    rw [f_X10_smudge_8, zbr_f (nI_ge hi (by omega)), zck_t (by decide), zlt_e, drw hl, zck_t (by decide), h.r8, zck_t h.k.1, h.2.1.1.1, rem100 hl1, h.r3, zck_t v32, h.n.2.1, zck_t (by decide), zlt_e, drw hl1]
    unfold f_X10_smudge_78
    rw [smg] at ih
    by_cases q1 : A 0 ≤ d1N (smg (A 0) (B 48) i d).1 % 100
    · rw [if_pos (Or.inl q1)] at ih
      rw [zbr_t (nI_le q1 (by omega)), zlt_e, nI_1]
      exact ih
    · rw [zbr_f (nI_ge (by omega) (by omega))]
      by_cases q2 : B 48 = 0
      · rw [if_pos (Or.inr q2)] at ih
        rw [zbr_t (by rw [q2]; decide), zlt_e, nI_1]
        exact ih
      · rw [if_neg (fun z => z.elim q1 q2)] at ih
        have hl2 := d1N_lt (d1N (smg (A 0) (B 48) i d).1)
        have hm := Nat.mod_lt (d1N (d1N (smg (A 0) (B 48) i d).1)) (show 0 < B 48 by omega)
        rw [zbr_f (nI_nle (by omega) (by omega)), zck_t (nI_ne0 (by omega) (by omega)), zlt_e, pk_rem (by omega) (by omega) (by omega), m_set (by omega) (by omega), zlt_e, nI_1]
        exact ih
theorem M_thumbNo (x y : Int32) : f_X11_thumbWhy 0 (bI false) x y σ = some (1, σ) := rfl
theorem M_thumbBad (x y : Int32) (h : (inR x 65537 && inR y 61) = false) : f_X11_thumbWhy 0 (bI true) x y σ = some (2, σ) := by
  have i1 : f_X11_in x 0 65536 σ = some (bI (inR x 65537), σ) := M_inc x (n := 65536) (by decide) _
  have i2 : f_X11_in y 0 60 σ = some (bI (inR y 61), σ) := M_inc y (n := 60) (by decide) _
  unfold f_X11_thumbWhy
  rw [zck_t w0, zbr_f (by decide), i1, zbd_s]
  cases e : inR x 65537
  · rw [zbr_t (by rfl)]
  · rw [e, Bool.true_and] at h
    rw [zbr_f (by decide), i2, zbd_s, h, zbr_t (by rfl)]
theorem M_thumbWhy (h : mU A B T D σ) (hA : vA A) (hB : vB A B) {d N : Nat} (hd : d < 65537) (hN : N < 61) : zH (f_X11_thumbWhy 0 (bI true) (nI d) (nI N) σ) (fun r σ' => r = 0 ∧ fr P39 σ σ' ∧ σ'.1 0 39 = nI (mk (smg (A 0) (B 48) N d).2 8)) := by
  have hA1 := hA.1
  have h8 := hB.1
  have i1 : f_X11_in (nI d) 0 65536 σ = some (bI (inR (nI d) 65537), σ) := M_inc _ (n := 65536) (by decide) _
  have i2 : f_X11_in (nI N) 0 60 σ = some (bI (inR (nI N) 61), σ) := M_inc _ (n := 60) (by decide) _
  unfold f_X11_thumbWhy
  rw [inR_n (by omega), decide_eq_true hd] at i1
  rw [inR_n (by omega), decide_eq_true hN] at i2
  refine zH_ck w0 (zH_f (by decide) (zH_eq i1 (zH_f (by decide) (zH_eq i2 (zH_f (by decide) (zH_lt (zH_lt (zH_lt ?_))))))))
  suffices key : ∀ i, i ≤ N → ∀ f, N - i < f → ∀ τ, fr P39 σ τ → τ.1 0 39 = nI (mk (smg (A 0) (B 48) i d).2 8) → zH (f_X11_thumbWhy_40 0 f (nI N) (nI (smg (A 0) (B 48) i d).1) (nI i) τ) (fun r σ' => r = 0 ∧ fr P39 σ σ' ∧ σ'.1 0 39 = nI (mk (smg (A 0) (B 48) N d).2 8)) from
    key 0 (Nat.zero_le _) FU (by unfold FU; omega) _ ((fr_r _ σ).pi _ ⟨rfl, rfl⟩) (by rw [zpi_eq]; show (0 : Int32) = nI (mk (fun _ => false) 8); rw [mk_e]; rfl)
  refine zup (P := fun f i => ∀ τ, fr P39 σ τ → τ.1 0 39 = nI (mk (smg (A 0) (B 48) i d).2 8) → zH (f_X11_thumbWhy_40 0 f (nI N) (nI (smg (A 0) (B 48) i d).1) (nI i) τ) _) N ?_ ?_
  · intro f τ hF h39
    rw [f_X11_thumbWhy_40]
    exact zH_t (Int32.le_refl _) (zH_ok ⟨rfl, hF, h39⟩)
  · intro f i hi ih τ hF h39
    have ht := h.f (hF.mo P39_Pq)
    have hl := smg_lt (A 0) (B 48) hd i
    have hl1 := d1N_lt (smg (A 0) (B 48) i d).1
    rw [f_X11_thumbWhy_40, drw hl, mr15 ht.1, mr19 ht.1, w3, w7, show (0 : Int32).toNatClampNeg = 0 from by decide, cl48, ht.2.1 0 (by omega), ht.2.2.1 48 (by omega), h39]
    refine zH_f (nI_ge hi (by omega)) (zH_ck (by decide) (zH_lt ?_))
    rw [rem100 hl1, drw hl1]
    refine zH_ck (by decide) (zH_ck (by decide) ?_)
    unfold f_X11_thumbWhy_122
    rw [smg] at ih
    by_cases q1 : A 0 ≤ d1N (smg (A 0) (B 48) i d).1 % 100
    · rw [if_pos (Or.inl q1)] at ih
      refine zH_t (nI_le q1 (by omega)) (zH_lt ?_)
      rw [nI_1]
      exact ih τ hF h39
    · refine zH_f (nI_ge (by omega) (by omega)) (zH_ck (by decide) ?_)
      by_cases q2 : B 48 = 0
      · rw [if_pos (Or.inr q2)] at ih
        refine zH_t (by rw [q2]; rfl) (zH_lt ?_)
        rw [nI_1]
        exact ih τ hF h39
      · rw [if_neg (fun z => z.elim q1 q2)] at ih
        have hl2 := d1N_lt (d1N (smg (A 0) (B 48) i d).1)
        have hm := Nat.mod_lt (d1N (d1N (smg (A 0) (B 48) i d).1)) (show 0 < B 48 by omega)
        refine zH_f (nI_ne0 (by omega) (by omega)) (zH_ck (by decide) (zH_lt (zH_ck (by decide) (zH_ck (nI_ne0 (by omega) (by omega)) (zH_lt (zH_lt ?_))))))
        rw [pk_rem (by omega) (by omega) (by omega), m_set (by omega) (by omega), nI_1]
        exact ih _ (hF.pi _ ⟨rfl, rfl⟩) (zpi_eq _ _ _ _)
end TH
def PT (a k : Nat) : Prop := Pl a k ∨ P39 a k
theorem PT_Pq (a k : Nat) (h : PT a k) : Pq a k := h.elim (Pl_Pq a k) (P39_Pq a k)
theorem O_thumbs : zO_thumbs Rel := by
  intro σc σm x y z hR
  refine hR.q (fun b A B T hA hB hT hc hm => ?_)
  have hA1 := hA.1
  have hg := hm.g
  cases hx : inR x (A 4)
  · refine ⟨-1, 1, by decide, QC_refuse ?_, QM_refuse ?_⟩
    · unfold f_X10_thumbs; rw [zck_t v0, C_isMatter hc hA, hx, zbd_s, zbr_t (by rfl), C_refuse, zbd_s]
    · unfold f_X11_thumbs; rw [zck_t w0, M_good, zbd_s, M_isMatter hg hA, hx, zbd_s, M_thumbNo, zbd_s, zlt_e, zbr_f (by decide), M_no, zbd_s]
  · cases hy : (inR y 65537 && inR z 61)
    · refine ⟨-1, 2, by decide, QC_refuse ?_, QM_refuse ?_⟩
      · unfold f_X10_thumbs; rw [zck_t v0, C_isMatter hc hA, hx, zbd_s, zbr_f (by decide), C_isThumbs, hy, zbd_s, zbr_t (by rfl), C_refuse, zbd_s]
      · unfold f_X11_thumbs; rw [zck_t w0, M_good, zbd_s, M_isMatter hg hA, hx, zbd_s, M_thumbBad _ _ hy, zbd_s, zlt_e, zbr_f (by decide), M_no, zbd_s]
    · have hyz := hy
      rw [Bool.and_eq_true] at hyz
      obtain ⟨m, hmm, rfl⟩ := inR_t hx
      obtain ⟨d, hd, rfl⟩ := inR_t hyz.1
      obtain ⟨N, hN, rfl⟩ := inR_t hyz.2
      refine ⟨oI (vr A B m (fun k => rd B k && !(smg (A 0) (B 48) N d).2 k)), 0, by decide, QC_grant ?_, QM_ansP PT_Pq (by unfold PT Pl P39; omega) ?_⟩
      · unfold f_X10_thumbs
        rw [zck_t v0, C_isMatter hc hA, hx, zbd_s, zbr_f (by decide), C_isThumbs, hy, zbd_s, zbr_f (by decide), hc.r3, zck_t v32, C_readN hc hA hB.1, zbd_s, C_smudge hc hA hB.1 hd hN, zbd_s, C_vrw hc hA hB.1 _ (by omega), zbd_s, C_grant, zbd_s]
      · unfold f_X11_thumbs
        refine zH_ck w0 (zH_eq (M_good _) (zH_eq (M_isMatter hg hA _) ?_))
        rw [hx]
        refine zH_call (M_thumbWhy hg hA hB.1 hd hN) ?_
        rintro r τ ⟨rfl, hF, h39⟩
        have ht := hg.f (hF.mo P39_Pq)
        refine zH_lt (zH_t rfl ?_)
        rw [mr19 ht.1, w7, cl48, ht.2.2.1 48 (by omega), h39]
        refine zH_ck (by decide) (zH_call (M_vrw ht hA hB.1 _ (by omega)) (fun r υ h => zH_ok ⟨h.1, (hF.mo (fun a k e => Or.inr e)).tr (h.2.mo (fun a k e => Or.inl e))⟩))
theorem O_smudged : zO_smudged Rel := by
  intro σc σm y z hR
  refine hR.q (fun b A B T hA hB hT hc hm => ?_)
  have hA1 := hA.1
  have hg := hm.g
  by_cases q : A 1 = 0
  · refine ⟨-1, 1, by decide, QC_refuse ?_, QM_refuse ?_⟩
    · unfold f_X10_smudged; rw [zck_t v0, C_noLetter hc hA, decide_eq_true q, zbd_s, zbr_f (by decide), C_refuse, zbd_s]
    · unfold f_X11_smudged; rw [zck_t w0, M_good, zbd_s, hg.2.2.2.2.2, decide_eq_false (by omega), M_thumbNo, zbd_s, zlt_e, zbr_f (by decide), M_no, zbd_s]
  · cases hy : (inR y 65537 && inR z 61)
    · refine ⟨-1, 2, by decide, QC_refuse ?_, QM_refuse ?_⟩
      · unfold f_X10_smudged; rw [zck_t v0, C_noLetter hc hA, decide_eq_false q, zbd_s, zbr_t (by rfl), C_isThumbs, hy, zbd_s, zbr_t (by rfl), C_refuse, zbd_s]
      · unfold f_X11_smudged; rw [zck_t w0, M_good, zbd_s, hg.2.2.2.2.2, decide_eq_true (by omega), M_thumbBad _ _ hy, zbd_s, zlt_e, zbr_f (by decide), M_no, zbd_s]
    · have hyz := hy
      rw [Bool.and_eq_true] at hyz
      obtain ⟨d, hd, rfl⟩ := inR_t hyz.1
      obtain ⟨N, hN, rfl⟩ := inR_t hyz.2
      refine ⟨nI (ct (smg (A 0) (B 48) N d).2 8), 0, by decide, QC_grant ?_, QM_ansP P39_Pq (by unfold P39; omega) ?_⟩
      · unfold f_X10_smudged
        rw [zck_t v0, C_noLetter hc hA, decide_eq_false q, zbd_s, zbr_t (by rfl), C_isThumbs, hy, zbd_s, zbr_f (by decide), C_smudge hc hA hB.1 hd hN, zbd_s, bc_m WC _ (by omega), zbd_s, C_grant, zbd_s]
      · unfold f_X11_smudged
        refine zH_ck w0 (zH_eq (M_good _) ?_)
        rw [hg.2.2.2.2.2, decide_eq_true (by omega)]
        refine zH_call (M_thumbWhy hg hA hB.1 hd hN) ?_
        rintro r τ ⟨rfl, hF, h39⟩
        refine zH_lt (zH_t rfl ?_)
        rw [h39]
        exact zH_eq (M_ones (by omega) τ) (zH_ok ⟨rfl, hF⟩)
