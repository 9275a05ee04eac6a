/-! line -/
/-- the lines that beat line k -/
def beq (A B : Nat → Nat) (k j : Nat) : Bool := rd B k && rdB B j && decide (B (6 * j + 2) = B (6 * k + 2)) && ((decide (B (6 * j + 1) = B (6 * k + 1)) && decide (k < j)) || outr A D0 (B (6 * j + 1)) (B (6 * k + 1)))
section BE
variable {b : Bool} {A B T : Nat → Nat} {σ : zS}
theorem C_beaters (h : cU b A B T σ) (hA : vA A) (hB : vB A B) {k : Nat} (hk : k < B 48) : f_X10_beaters 0 (nI k) σ = some (nI (mk (beq A B k) (B 48)), σ) := by
  have hA1 := hA.1
  have h8 := hB.1
  have hlk := hB.2.2 k hk
  have hn := h.n.2.2.2.2
  have erk : rdB B k = rd B k := by unfold rdB; rw [decide_eq_true hk, Bool.true_and]
  unfold f_X10_beaters
  rw [zck_t v0, h.r3, zck_t v32, C_readN h hA hB, zbd_s, zlt_e, m_get (by omega) (by omega), erk]
  cases e : rd B k
  · rw [zbr_t (by rfl), mk_cong (g := fun _ => false) (fun j _ => by unfold beq; simp [e]), mk_e]
    rfl
  · rw [zbr_f (by decide), zlt_e, zlt_e]
    refine zup (P := fun f j => f_X10_beaters_23 0 f (nI k) (nI (mk (rdB B) 8)) (nI (mk (beq A B k) j)) (nI j) σ = _) (B 48) ?_ ?_ 0 (Nat.zero_le _) FU (by unfold FU; omega)
    · intro f
      rw [f_X10_beaters_23, h.r3, zck_t v32, h.n.2.1, zbr_t (Int32.le_refl _)]
    · intro f j hj ih
      have hlj := hB.2.2 j hj
      have n160 : beq A B k j = false → f_X10_beaters_160 0 (f_X10_beaters_23 0 f) (nI k) (nI (mk (rdB B) 8)) (nI (mk (beq A B k) j)) (nI j) σ = some (nI (mk (beq A B k) (B 48)), σ) := by
        intro z
        rw [mk_sf (f := beq A B k) (n := j) z] at ih
        unfold f_X10_beaters_160
        rw [zlt_e, nI_1]
        exact ih
      have n153 : beq A B k j = true → f_X10_beaters_153 0 (f_X10_beaters_23 0 f) (nI k) (nI (mk (rdB B) 8)) (nI (mk (beq A B k) j)) (nI j) σ = some (nI (mk (beq A B k) (B 48)), σ) := by
        intro z
        unfold f_X10_beaters_153 f_X10_beaters_160
        rw [zlt_e, m_step (by omega) z, zlt_e, nI_1]
        exact ih
      have n72 : ∀ s : Bool, s = (rdB B j && decide (B (6 * j + 2) = B (6 * k + 2))) → f_X10_beaters_72 0 (f_X10_beaters_23 0 f) (nI k) (nI (mk (rdB B) 8)) (nI (mk (beq A B k) j)) (nI j) (bI s) σ = some (nI (mk (beq A B k) (B 48)), σ) := by
        intro s hs
        have hbe : beq A B k j = (s && ((decide (B (6 * j + 1) = B (6 * k + 1)) && decide (k < j)) || outr A D0 (B (6 * j + 1)) (B (6 * k + 1)))) := by
          unfold beq
          rw [e, Bool.true_and, ← hs]
        have n107 : ∀ l : Bool, l = (decide (B (6 * j + 1) = B (6 * k + 1)) && decide (k < j)) → f_X10_beaters_107 0 (f_X10_beaters_23 0 f) (nI k) (nI (mk (rdB B) 8)) (nI (mk (beq A B k) j)) (nI j) (bI s) (bI l) σ = some (nI (mk (beq A B k) (B 48)), σ) := by
          intro l hl
          rw [← hl] at hbe
          unfold f_X10_beaters_107
          rw [zlt_e]
          cases s
          · rw [zbr_t (by rfl)]
            exact n160 hbe
          · rw [zbr_f (by decide)]
            cases l
            · rw [zbr_t (by rfl), h.r1, h.r3, zck_t v28, zck_t v32, h.n.1.2.1.2.1, h.n.1.2.2.2.1, zck_t (zok_p (by omega) (by decide)), nI_clamp (by omega), (hn j hj).2.1, h.o.1.2.1, h.o.1.2.2, zck_t (zok_p (by omega) (by decide)), nI_clamp (by omega), zck_t (zok_p (by omega) (by decide)), nI_clamp (by omega), (hn k hk).2.1, h.2.2.2.2.2 _ hlj.2.1, m_get (by omega) (by omega)]
              have e1 : (decide (B (6 * k + 1) < A 1) && outr A D0 (B (6 * j + 1)) (B (6 * k + 1))) = outr A D0 (B (6 * j + 1)) (B (6 * k + 1)) := by rw [decide_eq_true hlk.2.1, Bool.true_and]
              rw [e1]
              cases e2 : outr A D0 (B (6 * j + 1)) (B (6 * k + 1))
              · rw [zbr_f (by decide)]
                exact n160 (by rw [hbe, e2]; rfl)
              · rw [zbr_t (by rfl)]
                exact n153 (by rw [hbe, e2]; rfl)
            · rw [zbr_f (by decide)]
              exact n153 (by rw [hbe]; rfl)
        unfold f_X10_beaters_72
        rw [zlt_e, h.r3, zck_t v32, h.n.1.2.1.2.1, h.n.1.2.2.2.1, zck_t (zok_p (by omega) (by decide)), zck_t (zok_p (by omega) (by decide)), nI_clamp (by omega), nI_clamp (by omega), (hn j hj).2.1, (hn k hk).2.1]
        by_cases e1 : B (6 * j + 1) = B (6 * k + 1)
        · rw [zbr_t (by rw [e1])]
          by_cases e2 : j ≤ k
          · rw [zbr_t (nI_le e2 (by omega))]
            exact n107 false (by rw [decide_eq_false (show ¬ k < j by omega), Bool.and_false])
          · rw [zbr_f (nI_ge (by omega) (by omega))]
            exact n107 true (by rw [decide_eq_true e1, decide_eq_true (show k < j by omega)]; rfl)
        · rw [zbr_f (fun z => e1 ((nI_eq (by omega) (by omega)).mp z))]
          exact n107 false (by rw [decide_eq_false e1]; rfl)
      rw [f_X10_beaters_23, h.r3, zck_t v32, h.n.2.1, zbr_f (nI_ge hj (by omega)), m_get (by omega) (by omega)]
      cases er : rdB B j
      · rw [zbr_f (by decide)]
        exact n72 false (by rw [er]; rfl)
      · rw [zbr_t (by rfl), h.n.1.2.1.2.2.1, h.n.1.2.2.2.2.1, zck_t (zok_p (by omega) (by decide)), zck_t (zok_p (by omega) (by decide)), nI_clamp (by omega), nI_clamp (by omega), (hn j hj).2.2.1, (hn k hk).2.2.1]
        by_cases e1 : B (6 * j + 2) = B (6 * k + 2)
        · rw [zbr_t (by rw [e1])]
          exact n72 true (by rw [er, decide_eq_true e1]; rfl)
        · rw [zbr_f (fun z => e1 ((nI_eq (by omega) (by omega)).mp z))]
          exact n72 false (by rw [er, decide_eq_false e1]; rfl)
/-- by the list: some that is k is beaten by one that is j -/
def bel (o : Nat → Nat → Bool) (L : lT) (k a n j : Nat) : Bool := decide ((L.2 a).2.2 = k) && an (fun c => !decide (a = c) && bts o L c a && decide ((L.2 c).2.2 = j)) n
theorem M_beatersOf (h : mU A B T D0 σ) (hA : vA A) (hB : vB A B) {k : Nat} (hk : k < B 48) : zH (f_X11_beatersOf 0 (nI k) σ) (fun x σ' => x = nI (mk (beq A B k) (B 48)) ∧ fr Pl σ σ') := by
  have hA1 := hA.1
  have h8 := hB.1
  have hlk := hB.2.2 k hk
  unfold f_X11_beatersOf
  refine zH_ck w0 (zH_lt ?_)
  rw [mr19 h.1, w7, ix2, cl48, nI_clamp (by omega), h.2.2.1 _ (by omega), h.2.2.1 48 (by omega)]
  refine zH_ck (zok_p (by omega) (by decide)) (zH_ck (by decide) ?_)
  have hlay := M_layList h.1 h.r7 (by decide) hB hA.1.2.1 hA.1.2.2.2.2.1 (fun _ => false) (m := B (6 * k + 2)) (by omega) (Nat.le_refl _)
  rw [mk_e] at hlay
  refine zH_call hlay ?_
  rintro - τ ⟨hF, hL⟩
  rw [ll_cong (S' := rd B) (fun k _ _ => by simp)] at hL
  have ht := h.l hF
  have hv := ll_vL hB (B (6 * k + 2)) (rd B) (Nat.le_refl (B 48))
  have hmem := ll_mem B (B (6 * k + 2)) (rd B) (B 48)
  have hmono := ll_mono B (B (6 * k + 2)) (rd B) (B 48)
  have hhas := ll_has B (B (6 * k + 2)) (rd B) (B 48)
  have hle := ll_le B (B (6 * k + 2)) (rd B) (B 48)
  generalize hLe : ll B (B (6 * k + 2)) (rd B) (B 48) = L at hL hv hmem hmono hhas hle
  have hL0 := hL
  obtain ⟨h12, h28, hl⟩ := hL
  refine zH_lt ?_
  have fin : mk (fun j => an (fun a => bel (outr A D0) L k a L.1 j) L.1) 8 = mk (beq A B k) (B 48) := by
    rw [mk_w h8]
    apply mk_cong
    intro j hj
    rw [Bool.eq_iff_iff, an_iff]
    constructor
    · rintro ⟨a, ha, e⟩
      unfold bel at e
      rw [Bool.and_eq_true, an_iff, decide_eq_true_eq] at e
      obtain ⟨e1, c, hc, e2⟩ := e
      simp only [Bool.and_eq_true, Bool.not_eq_true', decide_eq_false_iff_not, decide_eq_true_eq] at e2
      obtain ⟨⟨e3, e4⟩, e5⟩ := e2
      obtain ⟨a', a1, a2, a3, a4⟩ := hmem a ha
      obtain ⟨c', c1, c2, c3, c4⟩ := hmem c hc
      rw [a4] at e1
      rw [c4] at e5
      have e1 : a' = k := e1
      have e5 : c' = j := e5
      subst e1 e5
      have c5 : rdB B c' = true := by unfold rdB; rw [decide_eq_true c1, c3]; rfl
      unfold bts at e4
      rw [c4, a4] at e4
      unfold beq
      rw [decide_eq_true c1, a3, c5, decide_eq_true c2]
      by_cases q : B (6 * c' + 1) = B (6 * a' + 1)
      · have e4 : (if B (6 * c' + 1) = B (6 * a' + 1) then decide (a < c) else outr A D0 (B (6 * c' + 1)) (B (6 * a' + 1))) = true := e4
        rw [if_pos q] at e4
        have := hmono a c (of_decide_eq_true e4) hc
        rw [a4, c4] at this
        rw [decide_eq_true q, decide_eq_true (show a' < c' from this)]
        rfl
      · have e4 : (if B (6 * c' + 1) = B (6 * a' + 1) then decide (a < c) else outr A D0 (B (6 * c' + 1)) (B (6 * a' + 1))) = true := e4
        rw [if_neg q] at e4
        rw [e4, Bool.or_true]
        rfl
    · intro e
      simp only [Bool.and_eq_true, decide_eq_true_eq] at e
      obtain ⟨hjB, e⟩ := e
      unfold beq at e
      simp only [Bool.and_eq_true, Bool.or_eq_true, decide_eq_true_eq] at e
      obtain ⟨⟨⟨e1, e2⟩, e3⟩, e4⟩ := e
      have e2 : rd B j = true := by unfold rdB at e2; rw [decide_eq_true hjB, Bool.true_and] at e2; exact e2
      obtain ⟨a, ha, a4⟩ := hhas k hk rfl e1
      obtain ⟨c, hc, c4⟩ := hhas j hjB e3 e2
      refine ⟨a, ha, ?_⟩
      unfold bel
      rw [Bool.and_eq_true, an_iff, decide_eq_true_eq]
      refine ⟨by rw [a4], c, hc, ?_⟩
      simp only [Bool.and_eq_true, Bool.not_eq_true', decide_eq_false_iff_not, decide_eq_true_eq]
      have hne : ¬ a = c := by
        intro q
        subst q
        rw [a4] at c4
        have : k = j := congrArg (fun t => t.2.2) c4
        subst this
        rcases e4 with ⟨_, q⟩ | q
        · omega
        · rw [(outr_t D0 hA).2 _ hlk.2.1] at q
          cases q
      refine ⟨⟨hne, ?_⟩, by rw [c4]⟩
      unfold bts
      rw [c4, a4]
      show (if B (6 * j + 1) = B (6 * k + 1) then decide (a < c) else outr A D0 (B (6 * j + 1)) (B (6 * k + 1))) = true
      by_cases q : B (6 * j + 1) = B (6 * k + 1)
      · rw [if_pos q]
        rcases e4 with ⟨_, z⟩ | z
        · refine decide_eq_true ?_
          rcases Nat.lt_trichotomy a c with y | y | y
          · exact y
          · exact absurd y hne
          · have := hmono c a y ha
            rw [a4, c4] at this
            have : j < k := this
            omega
        · rw [q, (outr_t D0 hA).2 _ hlk.2.1] at z
          cases z
      · rw [if_neg q]
        rcases e4 with ⟨z, _⟩ | z
        · exact absurd z q
        · exact z
  have inner : ∀ (H : Int32 → Int32 → Int32 → zS → Option (Int32 × zS)) (a : Nat) (M : Nat → Bool), a < L.1 → f_X11_beatersOf_42 0 H FU (nI k) (nI (mk M 8)) (nI a) 0 τ = H (nI k) (nI (mk (fun j => M j || bel (outr A D0) L k a L.1 j) 8)) (nI (a + 1)) τ := by
    intro H a M ha
    have hta := (hv a ha).2.2
    suffices key : ∀ c, c ≤ L.1 → ∀ f, L.1 - c < f → f_X11_beatersOf_42 0 H f (nI k) (nI (mk (fun j => M j || bel (outr A D0) L k a c j) 8)) (nI a) (nI c) τ = H (nI k) (nI (mk (fun j => M j || bel (outr A D0) L k a L.1 j) 8)) (nI (a + 1)) τ by
      have := key 0 (Nat.zero_le _) FU (by unfold FU; omega)
      rw [mk_cong (g := M) (fun j _ => by unfold bel; simp [an])] at this
      exact this
    refine zup (P := fun f c => f_X11_beatersOf_42 0 H f (nI k) (nI (mk (fun j => M j || bel (outr A D0) L k a c j) 8)) (nI a) (nI c) τ = _) L.1 ?_ ?_
    · intro f
      rw [f_X11_beatersOf_42, h28, zbr_t (Int32.le_refl _), zlt_e, nI_1]
    · intro f c hc ih
      have htc := (hv c hc).2.2
      have htk : (L.2 c).2.2 < 8 := by
        obtain ⟨c', c1, _, _, c4⟩ := hmem c hc
        rw [c4]; show c' < 8; omega
      have same : (decide ((L.2 a).2.2 = k) && (!decide (a = c) && bts (outr A D0) L c a)) = false → f_X11_beatersOf_91 0 H (f_X11_beatersOf_42 0 H f) (nI k) (nI a) (nI c) (nI (mk (fun j => M j || bel (outr A D0) L k a c j) 8)) 0 τ = H (nI k) (nI (mk (fun j => M j || bel (outr A D0) L k a L.1 j) 8)) (nI (a + 1)) τ := by
        intro z
        have e : mk (fun j => M j || bel (outr A D0) L k a (c + 1) j) 8 = mk (fun j => M j || bel (outr A D0) L k a c j) 8 := mk_cong (fun j _ => by
          unfold bel
          rw [an]
          cases q : decide ((L.2 a).2.2 = k)
          · rfl
          · rw [q, Bool.true_and] at z
            rw [z, Bool.false_and, Bool.or_false])
        rw [e] at ih
        unfold f_X11_beatersOf_91
        rw [zlt_e, nI_or0, zlt_e, nI_1]
        exact ih
      rw [f_X11_beatersOf_42, h28, zbr_f (nI_ge hc (by omega)), mr27 ht.1, w12, zck_t (zok_p (by omega) (by decide)), nI_clamp (by omega), (hl a ha).2.2]
      unfold f_X11_beatersOf_90
      by_cases e1 : (L.2 a).2.2 = k
      · rw [zbr_t (by rw [e1])]
        by_cases e2 : a = c
        · rw [zbr_t (by rw [e2])]
          exact same (by simp [e2])
        · rw [zbr_f (fun z => e2 ((nI_eq (by omega) (by omega)).mp z)), M_doesBeat ht hA hL0 hv hc ha, zbd_s]
          cases e3 : bts (outr A D0) L c a
          · rw [zbr_t (by rfl)]
            exact same (by simp [e3])
          · rw [zbr_f (by decide), mr27 ht.1, w12, zck_t (zok_p (by omega) (by decide)), nI_clamp (by omega), (hl c hc).2.2]
            unfold f_X11_beatersOf_91
            rw [zlt_e, m_set (by omega) htk, zlt_e, nI_1]
            rw [mk_cong (g := fun j => M j || bel (outr A D0) L k a (c + 1) j)]
            · exact ih
            · intro j hj
              unfold bel
              rw [an, e3, decide_eq_true e1, decide_eq_false e2]
              simp only [Bool.true_and, Bool.not_false, Bool.or_assoc]
              congr 2
              exact decide_eq_decide.mpr ⟨Eq.symm, Eq.symm⟩
      · rw [zbr_f (fun z => e1 ((nI_eq (by omega) (by omega)).mp z))]
        exact same (by simp [e1])
  refine ⟨_, τ, ?_, rfl, hF⟩
  rw [← fin]
  suffices key : ∀ a, a ≤ L.1 → ∀ f, L.1 - a < f → f_X11_beatersOf_31 0 f (nI k) (nI (mk (fun j => an (fun a => bel (outr A D0) L k a L.1 j) a) 8)) (nI a) τ = some (nI (mk (fun j => an (fun a => bel (outr A D0) L k a L.1 j) L.1) 8), τ) by
    have := key 0 (Nat.zero_le _) FU (by unfold FU; omega)
    rw [show (fun j => an (fun a => bel (outr A D0) L k a L.1 j) 0) = fun _ => false from rfl, mk_e] at this
    exact this
  refine zup (P := fun f a => f_X11_beatersOf_31 0 f (nI k) (nI (mk (fun j => an (fun a => bel (outr A D0) L k a L.1 j) a) 8)) (nI a) τ = _) L.1 ?_ ?_
  · intro f
    rw [f_X11_beatersOf_31, h28, zbr_t (Int32.le_refl _)]
  · intro f a ha ih
    rw [f_X11_beatersOf_31, h28, zbr_f (nI_ge ha (by omega)), zlt_e, inner _ a _ ha]
    exact ih
end BE
theorem O_line : zO_line Rel := by
  intro σc σm x y hR
  refine hR.q (fun b A B T hA hB hT hc hm => ?_)
  have hA1 := hA.1
  have h8 := hB.1.1
  have hg := hm.g
  cases hx : inR x (B 48)
  · refine ⟨-1, 1, by decide, QC_refuse ?_, QM_refuse ?_⟩
    · unfold f_X10_line; rw [zck_t v0, C_isLine hc hB.1, hx, zbd_s, zbr_t (by rfl), C_refuse, zbd_s]
    · unfold f_X11_line; rw [zck_t w0, M_good, zbd_s, M_isLine hg hB.1, hx, zbd_s, zbr_t (by rfl)]; rfl
  · obtain ⟨k, hk, rfl⟩ := inR_t hx
    have hl := hB.1.2.2 k hk
    have hn := hc.n.2.2.2.2 k hk
    have i7 : f_X11_in y 0 7 (gd σm) = some (bI (inR y 8), gd σm) := M_inc y (n := 7) (by decide) _
    have e5 : skB B k = decide (B (6 * k + 5) = 1) := by unfold skB; rw [decide_eq_true hk, Bool.true_and]
    have er : rdB B k = rd B k := by unfold rdB; rw [decide_eq_true hk, Bool.true_and]
    have pre1 : f_X11_line 0 (nI k) y σm = zbr (bI (inR y 8) = 0) (f_X11_line_22 0 (gd σm)) (zbr (6 ≤ y) (zbr (y = 6) (some (bI (rd B k), gd σm)) (zbd (f_X11_beatersOf 0 (nI k) (gd σm)) (fun r s => some (r, s)))) (zck (zok 100 (100, 50) (6 * nI k + y)) (some ((gd σm).1 7 (6 * nI k + y).toNatClampNeg, gd σm)))) := by
      unfold f_X11_line
      rw [zck_t w0, M_good, zbd_s, M_isLine hg hB.1, hx, zbd_s, zbr_f (by decide), i7, zbd_s, mr19 hg.1, w7, M_isRead hg.r7 hB.1 hA.1.2.1 hk, zbd_s]
      cases rd B k <;> rfl
    have pre2 : f_X10_line 0 (nI k) y σc = zbr (y = 0) (zbd (f_X10_grant 0 (nI (B (6 * k))) σc) (fun r s => some (r, s))) (zbr (y = 1) (zbd (f_X10_grant 0 (nI (B (6 * k + 1))) σc) (fun r s => some (r, s))) (zbr (y = 2) (zbd (f_X10_grant 0 (nI (B (6 * k + 2))) σc) (fun r s => some (r, s))) (zbr (y = 3) (zbd (f_X10_grant 0 (nI (B (6 * k + 3))) σc) (fun r s => some (r, s))) (zbr (y = 4) (zbd (f_X10_grant 0 (nI (B (6 * k + 4))) σc) (fun r s => some (r, s))) (zbr (y = 5) (zbd (f_X10_grant 0 (bI (decide (B (6 * k + 5) = 1))) σc) (fun r s => some (r, s))) (zbr (y = 6) (zbd (f_X10_grant 0 (bI (rd B k)) σc) (fun r s => some (r, s))) (zbr (y = 7) (zbd (f_X10_grant 0 (nI (mk (beq A B k) (B 48))) σc) (fun r s => some (r, s))) (zbd (f_X10_refuse 0 1 σc) (fun r s => some (r, s)))))))))) := by
      unfold f_X10_line
      rw [zck_t v0, C_isLine hc hB.1, hx, zbd_s, zbr_f (by decide), C_beaters hc hA hB.1 hk, zbd_s, hc.r3, C_readN hc hA hB.1, zbd_s, m_get (by omega) (by omega), er, hc.n.2.2.1, m_get (by omega) (by omega), e5, hc.n.1.2.1.1, hc.n.1.2.1.2.1, hc.n.1.2.1.2.2.1, hc.n.1.2.1.2.2.2.1, hc.n.1.2.1.2.2.2.2, hc.n.1.2.2.1, hc.n.1.2.2.2.1, hc.n.1.2.2.2.2.1, hc.n.1.2.2.2.2.2.1, hc.n.1.2.2.2.2.2.2, nI_clamp (by omega), hn.1, hn.2.1, hn.2.2.1, hn.2.2.2.1, hn.2.2.2.2]
      simp only [zck_t v32, zck_t (zok_p (s := 100) (n := 8) (k := k) (by omega) (by decide))]
    cases hy : inR y 8
    · refine ⟨-1, 1, by decide, QC_refuse ?_, QM_refuse ?_⟩
      · rw [pre2, zbr_f (show ¬ y = 0 from inR_ne hy 0 (by decide) (by decide)), zbr_f (show ¬ y = 1 from inR_ne hy 1 (by decide) (by decide)), zbr_f (show ¬ y = 2 from inR_ne hy 2 (by decide) (by decide)), zbr_f (show ¬ y = 3 from inR_ne hy 3 (by decide) (by decide)), zbr_f (show ¬ y = 4 from inR_ne hy 4 (by decide) (by decide)), zbr_f (show ¬ y = 5 from inR_ne hy 5 (by decide) (by decide)), zbr_f (show ¬ y = 6 from inR_ne hy 6 (by decide) (by decide)), zbr_f (show ¬ y = 7 from inR_ne hy 7 (by decide) (by decide)), C_refuse, zbd_s]
      · rw [pre1, hy, zbr_t (by rfl)]; rfl
    · obtain ⟨w, hw, rfl⟩ := inR_t hy
      have fld : w < 6 → f_X11_line 0 (nI k) (nI w) σm = some (nI (B (6 * k + w)), gd σm) := by
        intro hw6
        rw [pre1, hy, zbr_f (by decide), zbr_f (show ¬ (6 : Int32) ≤ nI w from nI_ge (b := 6) hw6 (by decide)), show (6 : Int32) * nI k + nI w = nI (6 * k + w) from by show nI 6 * nI k + nI w = _; rw [nI_mul, nI_add], zck_t (zok_p (by omega) (by decide)), nI_clamp (by omega), hg.2.2.1 _ (by omega)]
      have hw : w = 0 ∨ w = 1 ∨ w = 2 ∨ w = 3 ∨ w = 4 ∨ w = 5 ∨ w = 6 ∨ w = 7 := by omega
      rcases hw with rfl | rfl | rfl | rfl | rfl | rfl | rfl | rfl
      · exact ⟨nI (B (6 * k)), 0, by decide, QC_grant (by rw [pre2, zbr_t (by rfl)]; rfl), QM_pure (fld (by decide))⟩
      · exact ⟨nI (B (6 * k + 1)), 0, by decide, QC_grant (by rw [pre2, zbr_f (by decide), zbr_t (by rfl)]; rfl), QM_pure (fld (by decide))⟩
      · exact ⟨nI (B (6 * k + 2)), 0, by decide, QC_grant (by rw [pre2, zbr_f (by decide), zbr_f (by decide), zbr_t (by rfl)]; rfl), QM_pure (fld (by decide))⟩
      · exact ⟨nI (B (6 * k + 3)), 0, by decide, QC_grant (by rw [pre2, zbr_f (by decide), zbr_f (by decide), zbr_f (by decide), zbr_t (by rfl)]; rfl), QM_pure (fld (by decide))⟩
      · exact ⟨nI (B (6 * k + 4)), 0, by decide, QC_grant (by rw [pre2, zbr_f (by decide), zbr_f (by decide), zbr_f (by decide), zbr_f (by decide), zbr_t (by rfl)]; rfl), QM_pure (fld (by decide))⟩
      · refine ⟨nI (B (6 * k + 5)), 0, by decide, QC_grant ?_, QM_pure (fld (by decide))⟩
        rw [pre2, zbr_f (by decide), zbr_f (by decide), zbr_f (by decide), zbr_f (by decide), zbr_f (by decide), zbr_t (by rfl), C_grant, zbd_s, bI_nI]
        have h5 : B (6 * k + 5) = 0 ∨ B (6 * k + 5) = 1 := by omega
        rcases h5 with h5 | h5 <;> rw [h5] <;> rfl
      · refine ⟨bI (rd B k), 0, by decide, QC_grant (by rw [pre2, zbr_f (by decide), zbr_f (by decide), zbr_f (by decide), zbr_f (by decide), zbr_f (by decide), zbr_f (by decide), zbr_t (by rfl)]; rfl), QM_pure ?_⟩
        rw [pre1, hy, zbr_f (by decide), zbr_t (by decide), zbr_t (by rfl)]
      · refine ⟨nI (mk (beq A B k) (B 48)), 0, by decide, QC_grant (by rw [pre2, zbr_f (by decide), zbr_f (by decide), zbr_f (by decide), zbr_f (by decide), zbr_f (by decide), zbr_f (by decide), zbr_f (by decide), zbr_t (by rfl)]; rfl), QM_ans ?_⟩
        rw [pre1, hy]
        exact zH_f (by decide) (zH_t (by decide) (zH_f (by decide) (zH_call (M_beatersOf hg hA hB.1 hk) (fun x τ ht => zH_ok ht))))
