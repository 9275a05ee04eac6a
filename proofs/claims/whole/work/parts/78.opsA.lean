/-! more of the reference's getters; place, hand, line, done, stands, allDone, ruler -/
theorem nI_or0 (a : Nat) : nI a ||| (0 : Int32) = nI a := by show nI a ||| nI 0 = _; rw [nI_or, Nat.or_zero]
theorem zpi_id {σ : zS} {a k : Nat} {v : Int32} (h : σ.1 a k = v) : zpi σ a k v = σ := by
  refine Prod.ext ?_ rfl
  funext b j
  show (if b = a ∧ j = k then v else σ.1 b j) = _
  by_cases q : b = a ∧ j = k
  · rw [if_pos q, q.1, q.2, h]
  · rw [if_neg q]
theorem inR_ne {x : Int32} {n : Nat} (h : inR x n = false) (j : Nat) (hj : j < n) (hn : n < 2 ^ 31) : ¬ x = nI j := fun e => by
  rw [e, inR_n (by omega), decide_eq_true hj] at h
  cases h
section G
variable {b : Bool} {A B T : Nat → Nat} {D : Nat → Bool} {σ : zS}
theorem QM_pure {f : Option (Int32 × zS)} {v : Int32} (h : f = some (v, gd σ)) : QM f σ v 0 := QM_ans ⟨_, _, h, rfl, fr_r Pl _⟩
theorem M_linesAt (h : mU A B T D σ) (hB : vB A B) (hA : vA A) {p : Nat} (hp : p < 2 ^ 31) : f_X11_linesAt 0 (nI p) σ = some (nI (mk (fun k => decide (B (6 * k + 1) = p)) (B 48)), σ) := by
  obtain ⟨h8, hf, hl⟩ := hB
  have hA1 := hA.1
  unfold f_X11_linesAt
  rw [zck_t w0, zlt_e, zlt_e]
  refine zup (P := fun f k => f_X11_linesAt_4 0 f (nI p) (nI (mk (fun k => decide (B (6 * k + 1) = p)) k)) (nI k) σ = _) (B 48) ?_ ?_ 0 (Nat.zero_le _) FU (by unfold FU; omega)
  · intro f
    rw [f_X11_linesAt_4, mr19 h.1, w7, zck_t (by decide), cl48, h.2.2.1 48 (by omega), zbr_t (Int32.le_refl _)]
  · intro f k hk ih
    have hl1 := hl k hk
    rw [f_X11_linesAt_4, mr19 h.1, w7, zck_t (by decide), cl48, h.2.2.1 48 (by omega), zbr_f (nI_ge hk (by omega)), ix1, zck_t (zok_p (by omega) (by decide)), nI_clamp (by omega), h.2.2.1 _ (by omega)]
    unfold f_X11_linesAt_38
    by_cases hq : B (6 * k + 1) = p
    · rw [zbr_t (by rw [hq]), zlt_e, m_step (by omega) (decide_eq_true hq), zlt_e, nI_1]
      exact ih
    · rw [mk_sf (decide_eq_false hq)] at ih
      rw [zbr_f (fun e => hq ((nI_eq (by omega) hp).mp e)), zlt_e, nI_or0, zlt_e, nI_1]
      exact ih
theorem M_linesOf (h : mU A B T D σ) (hB : vB A B) (hA : vA A) {p : Nat} (hp : p < 2 ^ 31) : f_X11_linesOf 0 (nI p) σ = some (nI (mk (fun k => decide (B (6 * k) = p)) (B 48)), σ) := by
  obtain ⟨h8, hf, hl⟩ := hB
  have hA1 := hA.1
  unfold f_X11_linesOf
  rw [zck_t w0, zlt_e, zlt_e]
  refine zup (P := fun f k => f_X11_linesOf_4 0 f (nI p) (nI (mk (fun k => decide (B (6 * k) = p)) k)) (nI k) σ = _) (B 48) ?_ ?_ 0 (Nat.zero_le _) FU (by unfold FU; omega)
  · intro f
    rw [f_X11_linesOf_4, mr19 h.1, w7, zck_t (by decide), cl48, h.2.2.1 48 (by omega), zbr_t (Int32.le_refl _)]
  · intro f k hk ih
    have hl1 := hl k hk
    rw [f_X11_linesOf_4, mr19 h.1, w7, zck_t (by decide), cl48, h.2.2.1 48 (by omega), zbr_f (nI_ge hk (by omega)), ix0, zck_t (zok_p (by omega) (by decide)), nI_clamp (by omega), h.2.2.1 _ (by omega)]
    unfold f_X11_linesOf_38
    by_cases hq : B (6 * k) = p
    · rw [zbr_t (by rw [hq]), zlt_e, m_step (by omega) (decide_eq_true hq), zlt_e, nI_1]
      exact ih
    · rw [mk_sf (decide_eq_false hq)] at ih
      rw [zbr_f (fun e => hq ((nI_eq (by omega) hp).mp e)), zlt_e, nI_or0, zlt_e, nI_1]
      exact ih
theorem M_outrankedBy (h : mU A B T D σ) (hA : vA A) {p : Nat} (hp : p < A 1) : f_X11_outrankedBy 0 (nI p) σ = some (nI (mk (outr A D p) (A 1)), σ) := by
  have hA1 := hA.1
  unfold f_X11_outrankedBy
  rw [zck_t w0, zlt_e, zlt_e]
  refine zup (P := fun f k => f_X11_outrankedBy_4 0 f (nI p) (nI (mk (outr A D p) k)) (nI k) σ = _) (A 1) ?_ ?_ 0 (Nat.zero_le _) FU (by unfold FU; omega)
  · intro f
    rw [f_X11_outrankedBy_4, mr15 h.1, w3, zck_t (by decide), cl1, h.2.1 1 (by omega), zbr_t (Int32.le_refl _)]
  · intro f k hk ih
    rw [f_X11_outrankedBy_4, mr15 h.1, w3, zck_t (by decide), cl1, h.2.1 1 (by omega), zbr_f (nI_ge hk (by omega))]
    unfold f_X11_outrankedBy_35 f_X11_outrankedBy_36
    by_cases hq : k = p
    · subst hq
      rw [mk_sf ((outr_t D hA).2 k hk)] at ih
      rw [zbr_t (by rfl), zlt_e, nI_or0, zlt_e, nI_1]
      exact ih
    · rw [zbr_f (fun e => hq ((nI_eq (by omega) (by omega)).mp e)), M_doesOutrank h hA hp hk, zbd_s]
      cases e : outr A D p k
      · rw [mk_sf e] at ih
        rw [zbr_t (by rfl), zlt_e, nI_or0, zlt_e, nI_1]
        exact ih
      · rw [zbr_f (by decide), zlt_e, m_step (by omega) e, zlt_e, nI_1]
        exact ih
theorem used_le (B : Nat → Nat) (p : Nat) {k n : Nat} (h : k ≤ n) : used B p k ≤ used B p n := by
  induction n with
  | zero => have : k = 0 := by omega
            subst this; exact Nat.le_refl _
  | succ n ih =>
    by_cases q : k = n + 1
    · subst q; exact Nat.le_refl _
    · have := ih (by omega)
      unfold used at this ⊢
      rw [sm]
      omega
theorem M_roomOn {rf rr : Nat} {C : Nat → Nat} (hf : (rf = 3 ∨ rf = 4) ∧ ∀ k, k < 69 → σ.1 rf k = nI (A k)) (hr : (rr = 5 ∨ rr = 6 ∨ rr = 7) ∧ ∀ k, k < 50 → σ.1 rr k = nI (C k)) (h8 : C 48 ≤ 8) (hl : ∀ k, k < C 48 → C (6 * k + 1) < 6) {p : Nat} (hp : p < 6) (hu : used C p (C 48) ≤ A (11 + 2 * p)) : f_X11_roomOn 0 rf rr (nI p) σ = some (nI (A (11 + 2 * p) - used C p (C 48)), σ) := by
  have wf : WM.2 rf = (100, 195) := by rcases hf.1 with rfl | rfl <;> rfl
  have wr : WM.2 rr = (100, 50) := by rcases hr.1 with rfl | rfl | rfl <;> rfl
  unfold f_X11_roomOn
  rw [zck_t w0, wf, jx10, jx11, zck_t (zok_p (by omega) (by decide)), nI_clamp (by omega), hf.2 _ (by omega), zlt_e, zlt_e]
  refine zup (P := fun f k => f_X11_roomOn_15 0 f rr (nI p) (nI (A (11 + 2 * p) - used C p k)) (nI k) σ = _) (C 48) ?_ ?_ 0 (Nat.zero_le _) FU (by unfold FU; omega)
  · intro f
    rw [f_X11_roomOn_15, wr, zck_t (by decide), cl48, hr.2 48 (by omega), zbr_t (Int32.le_refl _)]
  · intro f k hk ih
    have hl1 := hl k hk
    have hk1 := used_le C p (show k + 1 ≤ C 48 from hk)
    rw [f_X11_roomOn_15, wr, zck_t (by decide), cl48, hr.2 48 (by omega), zbr_f (nI_ge hk (by omega)), ix1, ix4, zck_t (zok_p (by omega) (by decide)), nI_clamp (by omega), hr.2 _ (by omega), nI_clamp (by omega), hr.2 _ (by omega)]
    have e : used C p (k + 1) = used C p k + (if C (6 * k + 1) = p then C (6 * k + 4) else 0) := rfl
    unfold f_X11_roomOn_52
    by_cases hq : C (6 * k + 1) = p
    · rw [if_pos hq] at e
      rw [e] at ih hk1
      rw [zbr_t (by rw [hq]), zck_t (zok_p (by omega) (by decide)), zlt_e, zlt_e, nI_1, nI_sub (by omega), Nat.sub_sub]
      exact ih
    · rw [if_neg hq, Nat.add_zero] at e
      rw [e] at ih
      rw [zbr_f (fun z => hq ((nI_eq (by omega) (by omega)).mp z)), zlt_e, zlt_e, nI_1, show nI (A (11 + 2 * p) - used C p k) - (0 : Int32) = nI (A (11 + 2 * p) - used C p k) from by show _ - nI 0 = _; rw [nI_sub (Nat.zero_le _), Nat.sub_zero]]
      exact ih
theorem M_room (h : mU A B T D σ) (hA : vA A) (hB : vP A B) {p : Nat} (hp : p < A 1) : f_X11_roomOn 0 3 7 (nI p) σ = some (nI (room A B p), σ) :=
  M_roomOn ⟨Or.inl rfl, h.2.1⟩ ⟨Or.inr (Or.inr rfl), h.2.2.1⟩ hB.1.1 (fun k hk => by have := hB.1.2.2 k hk; have := hA.1; omega) (by have := hA.1; omega) (hB.2 p hp)
/-- the lines in the list come in their order -/
theorem ll_mono (B : Nat → Nat) (m : Nat) (S : Nat → Bool) : ∀ n, ∀ i j, i < j → j < (ll B m S n).1 → ((ll B m S n).2 i).2.2 < ((ll B m S n).2 j).2.2
  | 0, _, j, _, h => absurd h (Nat.not_lt_zero j)
  | n + 1, i, j, hij, h => by
    by_cases e : B (6 * n + 2) = m ∧ S n = true
    · rw [ll_t e.1 e.2] at h ⊢
      have h : j < (ll B m S n).1 + 1 := h
      show ((if i = (ll B m S n).1 then (B (6 * n + 1), B (6 * n + 3), n) else (ll B m S n).2 i)).2.2 < ((if j = (ll B m S n).1 then (B (6 * n + 1), B (6 * n + 3), n) else (ll B m S n).2 j)).2.2
      rw [if_neg (by omega)]
      by_cases q : j = (ll B m S n).1
      · rw [if_pos q]
        obtain ⟨k, h1, h2, h3, h4⟩ := ll_mem B m S n i (by omega)
        rw [h4]
        exact h1
      · rw [if_neg q]
        exact ll_mono B m S n i j hij (by omega)
    · rw [ll_f e] at h ⊢
      exact ll_mono B m S n i j hij h
theorem ll_has (B : Nat → Nat) (m : Nat) (S : Nat → Bool) : ∀ n k, k < n → B (6 * k + 2) = m → S k = true → ∃ j, j < (ll B m S n).1 ∧ (ll B m S n).2 j = (B (6 * k + 1), B (6 * k + 3), k)
  | 0, k, h, _, _ => absurd h (Nat.not_lt_zero k)
  | n + 1, k, h, h2, h3 => by
    by_cases e : B (6 * n + 2) = m ∧ S n = true
    · rw [ll_t e.1 e.2]
      by_cases q : k = n
      · subst q
        exact ⟨(ll B m S k).1, Nat.lt_succ_self _, if_pos rfl⟩
      · obtain ⟨j, a1, a2⟩ := ll_has B m S n k (by omega) h2 h3
        exact ⟨j, Nat.lt_succ_of_lt a1, by show (if j = _ then _ else _) = _; rw [if_neg (by omega)]; exact a2⟩
    · rw [ll_f e]
      by_cases q : k = n
      · subst q; exact absurd ⟨h2, h3⟩ e
      · exact ll_has B m S n k (by omega) h2 h3
/-- whose line rules -/
def ru (A B : Nat → Nat) (h m : Nat) : Bool := match sd (outr A D0) (ll B m (rd B) (B 48)) with
  | some k => decide (B (6 * k) = h)
  | none => false
theorem sd_lt (hB : vB A B) {o : Nat → Nat → Bool} {m : Nat} {S : Nat → Bool} {k : Nat} (h : sd o (ll B m S (B 48)) = some k) : k < B 48 ∧ B (6 * k + 2) = m ∧ S k = true := by
  unfold sd at h
  cases e : ub o (ll B m S (B 48)) with
  | none => rw [e] at h; cases h
  | some a =>
    rw [e] at h
    have ha := (fi_iff.mp e).1
    obtain ⟨k', h1, h2, h3, h4⟩ := ll_mem B m S (B 48) a ha
    have h : ((ll B m S (B 48)).2 a).2.2 = k := Option.some.inj h
    rw [h4] at h
    have h : k' = k := h
    subst h
    exact ⟨h1, h2, h3⟩
theorem rdB_ll (m : Nat) : ll B m (rdB B) (B 48) = ll B m (rd B) (B 48) := ll_cong (fun k hk _ => by unfold rdB; rw [decide_eq_true hk, Bool.true_and])
theorem C_ruledBy (h : cU b A B T σ) (hA : vA A) (hB : vB A B) {p : Nat} (hp : p < 2 ^ 31) : f_X10_ruledBy 0 (nI p) σ = some (nI (mk (ru A B p) (A 4)), σ) := by
  have hA1 := hA.1
  unfold f_X10_ruledBy
  rw [zck_t v0, h.r3, zck_t v32, C_readN h hA hB, zbd_s, zlt_e, zlt_e, zlt_e]
  refine zup (P := fun f k => f_X10_ruledBy_13 0 f (nI p) (nI (mk (rdB B) 8)) (nI (mk (ru A B p) k)) (nI k) σ = _) (A 4) ?_ ?_ 0 (Nat.zero_le _) FU (by unfold FU; omega)
  · intro f
    rw [f_X10_ruledBy_13, h.r8, zck_t h.k.1, h.2.1.1.2.2.2.2.1, zbr_t (Int32.le_refl _)]
  · intro f k hk ih
    rw [f_X10_ruledBy_13, h.r8, zck_t h.k.1, h.2.1.1.2.2.2.2.1, zbr_f (nI_ge hk (by omega)), C_standing h hA hB _ (by omega), zbd_s, zlt_e, rdB_ll]
    unfold f_X10_ruledBy_62
    cases e : sd (outr A D0) (ll B k (rd B) (B 48)) with
    | none =>
      rw [mk_sf (f := ru A B p) (n := k) (by unfold ru; rw [e])] at ih
      rw [zbr_t (by rfl), zlt_e, nI_1]
      exact ih
    | some j =>
      obtain ⟨j1, j2, j3⟩ := sd_lt hB e
      have h8 := hB.1
      have hl := hB.2.2 j j1
      show zbr (nI j = -2) _ _ = _
      rw [zbr_f (nI_m2 (by omega)), h.r3, zck_t v32, h.n.1.2.1.1, h.n.1.2.2.1]
      show zck (zok 100 (100, 8) (nI j)) (zbr (σ.1 (32 + 1) (nI j).toNatClampNeg = nI p) _ _) = _
      rw [zck_t (zok_p (by omega) (by decide)), nI_clamp (by omega), (h.n.2.2.2.2 j j1).1]
      by_cases q : B (6 * j) = p
      · rw [zbr_t (by rw [q]), zlt_e, m_step (by omega) (by unfold ru; rw [e]; exact decide_eq_true q), zlt_e, nI_1]
        exact ih
      · rw [mk_sf (f := ru A B p) (n := k) (by unfold ru; rw [e]; exact decide_eq_false q)] at ih
        rw [zbr_f (fun z => q ((nI_eq (by omega) hp).mp z)), zlt_e, nI_1]
        exact ih
theorem M_stands0 (h : mU A B T D σ) (hA : vA A) (hB : vB A B) {m : Nat} (hm : m < 2 ^ 31) : zH (f_X11_standsOf 0 (nI m) 0 σ) (fun x σ' => x = oI (sd (outr A D) (ll B m (rd B) (B 48))) ∧ fr Pl σ σ') := by
  have := M_standsOf h hA hB (fun _ => false) hm
  rw [mk_e] at this
  refine zH_mono this (fun x τ ht => ⟨?_, ht.2⟩)
  rw [ht.1, ll_cong (S' := rd B) (fun k _ _ => by simp)]
theorem M_ruledBy (h : mU A B T D0 σ) (hA : vA A) (hB : vB A B) {p : Nat} (hp : p < 2 ^ 31) : zH (f_X11_ruledBy 0 (nI p) σ) (fun x σ' => x = nI (mk (ru A B p) (A 4)) ∧ fr Pl σ σ') := by
  have hA1 := hA.1
  have h8 := hB.1
  unfold f_X11_ruledBy
  refine zH_ck w0 (zH_lt (zH_lt ?_))
  suffices key : ∀ k, k ≤ A 4 → ∀ f, A 4 - k < f → ∀ τ, fr Pl σ τ → zH (f_X11_ruledBy_4 0 f (nI p) (nI (mk (ru A B p) k)) (nI k) τ) (fun x σ' => x = nI (mk (ru A B p) (A 4)) ∧ fr Pl σ σ') from key 0 (Nat.zero_le _) FU (by unfold FU; omega) _ (fr_r Pl σ)
  refine zup (P := fun f k => ∀ τ, fr Pl σ τ → zH (f_X11_ruledBy_4 0 f (nI p) (nI (mk (ru A B p) k)) (nI k) τ) _) (A 4) ?_ ?_
  · intro f τ hF
    have ht := h.l hF
    rw [f_X11_ruledBy_4, mr15 ht.1, w3, cl4, ht.2.1 4 (by omega)]
    exact zH_ck (by decide) (zH_t (Int32.le_refl _) (zH_ok ⟨rfl, hF⟩))
  · intro f k hk ih τ hF
    have ht := h.l hF
    have nxt : ∀ υ, fr Pl σ υ → ru A B p k = false → zH (f_X11_ruledBy_50 0 (f_X11_ruledBy_4 0 f) (nI p) (nI k) (nI (mk (ru A B p) k)) υ) (fun x σ' => x = nI (mk (ru A B p) (A 4)) ∧ fr Pl σ σ') := by
      intro υ hu e
      unfold f_X11_ruledBy_50 f_X11_ruledBy_51
      refine zH_lt (zH_lt ?_)
      rw [nI_or0, nI_1, ← mk_sf e]
      exact ih υ hu
    rw [f_X11_ruledBy_4, mr15 ht.1, w3, cl4, ht.2.1 4 (by omega)]
    refine zH_ck (by decide) (zH_f (nI_ge hk (by omega)) (zH_call (M_stands0 ht hA hB (by omega)) ?_))
    rintro x υ ⟨rfl, hu⟩
    have hu := hF.tr hu
    have hU := h.l hu
    cases e : sd (outr A D0) (ll B k (rd B) (B 48)) with
    | none => exact zH_t (by decide) (nxt υ hu (by unfold ru; rw [e]))
    | some j =>
      obtain ⟨j1, j2, j3⟩ := sd_lt hB e
      have hl := hB.2.2 j j1
      refine zH_f (nI_pos (by omega)) (zH_call (M_stands0 hU hA hB (by omega)) ?_)
      rintro x ω ⟨rfl, hw⟩
      have hw := hu.tr hw
      have hW := h.l hw
      rw [e, mr19 hU.1, w7]
      show zH (zck (zok 100 (100, 50) ((6 : Int32) * nI j + 0)) (zbr (ω.1 7 ((6 : Int32) * nI j + 0).toNatClampNeg = nI p) _ _)) _
      rw [ix0, nI_clamp (by omega), hW.2.2.1 _ (by omega)]
      refine zH_ck (zok_p (by omega) (by decide)) ?_
      by_cases q : B (6 * j) = p
      · refine zH_t (by rw [q]) ?_
        unfold f_X11_ruledBy_51
        refine zH_lt (zH_lt ?_)
        rw [m_step (by omega) (by unfold ru; rw [e]; exact decide_eq_true q), nI_1]
        exact ih ω hw
      · exact zH_f (fun z => q ((nI_eq (by omega) hp).mp z)) (nxt ω hw (by unfold ru; rw [e]; exact decide_eq_false q))
end G
theorem O_done : zO_done Rel := by
  intro σc σm x hR
  refine hR.q (fun b A B T hA hB hT hc hm => ?_)
  have hA1 := hA.1
  cases hx : inR x (A 4)
  · refine ⟨-1, 1, by decide, QC_refuse ?_, QM_refuse ?_⟩
    · unfold f_X10_done; rw [zck_t v0, C_isMatter hc hA, hx, zbd_s, zbr_t (by rfl), C_refuse, zbd_s]
    · unfold f_X11_done; rw [zck_t w0, M_good, zbd_s, M_isMatter hm.g hA, hx, zbd_s, zbr_t (by rfl), M_no, zbd_s]
  · obtain ⟨m, h, rfl⟩ := inR_t hx
    refine ⟨oI (vd (outr A D0) (ll B m (rd B) (B 48))), 0, by decide, QC_grant ?_, QM_ans ?_⟩
    · unfold f_X10_done; rw [zck_t v0, C_isMatter hc hA, hx, zbd_s, zbr_f (by decide), hc.r3, zck_t v32, C_readN hc hA hB.1, zbd_s, C_verdict hc hA hB.1 _ (by omega), zbd_s, rdB_ll, C_grant, zbd_s]
    · unfold f_X11_done
      refine zH_ck w0 (zH_eq (M_good _) (zH_eq (M_isMatter hm.g hA _) ?_))
      rw [hx]
      exact zH_f (by decide) (zH_call (M_doneNow hm.g hA hB.1 (by omega)) (fun x τ ht => zH_ok ht))
theorem O_stands : zO_stands Rel := by
  intro σc σm x hR
  refine hR.q (fun b A B T hA hB hT hc hm => ?_)
  have hA1 := hA.1
  cases hx : inR x (A 4)
  · refine ⟨-1, 1, by decide, QC_refuse ?_, QM_refuse ?_⟩
    · unfold f_X10_stands; rw [zck_t v0, C_isMatter hc hA, hx, zbd_s, zbr_t (by rfl), C_refuse, zbd_s]
    · unfold f_X11_stands; rw [zck_t w0, M_good, zbd_s, M_isMatter hm.g hA, hx, zbd_s, zbr_t (by rfl), M_no, zbd_s]
  · obtain ⟨m, h, rfl⟩ := inR_t hx
    refine ⟨oI (sd (outr A D0) (ll B m (rd B) (B 48))), 0, by decide, QC_grant ?_, QM_ans ?_⟩
    · unfold f_X10_stands; rw [zck_t v0, C_isMatter hc hA, hx, zbd_s, zbr_f (by decide), hc.r3, zck_t v32, C_readN hc hA hB.1, zbd_s, C_standing hc hA hB.1 _ (by omega), zbd_s, rdB_ll, C_grant, zbd_s]
    · unfold f_X11_stands
      refine zH_ck w0 (zH_eq (M_good _) (zH_eq (M_isMatter hm.g hA _) ?_))
      rw [hx]
      exact zH_f (by decide) (zH_call (M_stands0 hm.g hA hB.1 (by omega)) (fun x τ ht => zH_ok ht))
