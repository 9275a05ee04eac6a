/-! words, names, faults -/
def zL (j : Nat) : Nat := zlen.getD j 0
def zcb (j k : Nat) : Int32 := (zbyt.getD j []).getD k 0
theorem zL_b : ∀ j, j < 18 → zL j ≤ 8 := by decide +kernel
def wI (tp : Nat → Nat) (a e kd j : Nat) : Bool := decide (kd = 1) && decide (e - a = zL j) && al (fun k => decide (nI (tp (a + k)) = zcb j k)) (zL j)
theorem zslen_e (j : Nat) : zslen (1000 + j) = nI (zL j) := by unfold zslen zL; rw [Nat.add_sub_cancel_left]; rfl
theorem zsch_e (j : Nat) {k : Nat} (hk : k < 2 ^ 31) : zsch (1000 + j) (nI k) = zcb j k := by unfold zsch zcb; rw [Nat.add_sub_cancel_left, nI_clamp hk]
theorem zgl (j : Nat) : zlen.getD (1000 + j - 1000) 0 = zL j := by unfold zL; rw [Nat.add_sub_cancel_left]
theorem al_snoc (P : Nat → Bool) (k : Nat) : al P (k + 1) = (al P k && P k) := rfl
theorem al_ff {P : Nat → Bool} {k n : Nat} (hk : k < n) (h : P k = false) : al P n = false := by
  cases e : al P n
  · rfl
  · rw [al_iff.mp e k hk] at h; cases h
theorem tkM_2 {kd : Nat} (h : kd ≤ 4) : nI (tkM kd) = (2 : Int32) ↔ kd = 1 := by
  have : kd = 0 ∨ kd = 1 ∨ kd = 2 ∨ kd = 3 ∨ kd = 4 := by omega
  rcases this with rfl | rfl | rfl | rfl | rfl <;> decide
theorem tkM_3 {kd : Nat} (h : kd ≤ 4) : nI (tkM kd) = (3 : Int32) ↔ kd = 2 := by
  have : kd = 0 ∨ kd = 1 ∨ kd = 2 ∨ kd = 3 ∨ kd = 4 := by omega
  rcases this with rfl | rfl | rfl | rfl | rfl <;> decide
theorem tkM_59 {kd : Nat} (h : kd ≤ 4) : nI (tkM kd) = (59 : Int32) ↔ kd = 3 := by
  have : kd = 0 ∨ kd = 1 ∨ kd = 2 ∨ kd = 3 ∨ kd = 4 := by omega
  rcases this with rfl | rfl | rfl | rfl | rfl <;> decide
theorem tkM_0 {kd : Nat} (h : kd ≤ 4) : nI (tkM kd) = 0 ↔ kd = 0 := by
  have : kd = 0 ∨ kd = 1 ∨ kd = 2 ∨ kd = 3 ∨ kd = 4 := by omega
  rcases this with rfl | rfl | rfl | rfl | rfl <;> decide
section WD
variable {tp : Nat → Nat} {n a e kd : Nat} {σc σm : zS}
theorem C_isWord (hT : TP tp n σc σm) (hK : TK tp n a e kd σc σm) (r0 : σc.2 2 0 = 3) {j : Nat} (hj : j < 18) : f_X9_isWord 2 (1000 + j) σc = some (bI (wI tp a e kd j), σc) := by
  obtain ⟨h9, h2, h3, hb⟩ := hT
  obtain ⟨⟨x1, x2, x3⟩, ⟨c3, c4, c5⟩, -, hw, -⟩ := hK
  have hz := zL_b j hj
  unfold f_X9_isWord wI
  rw [zck_t k2, c5]
  by_cases q1 : kd = 1
  · obtain ⟨y1, y2, -, y4⟩ := hw q1
    rw [zbr_t (by rw [q1]; rfl), zck_t ⟨by omega, by omega⟩, c4, c3, nI_sub (by omega), zslen_e, decide_eq_true q1, Bool.true_and]
    by_cases q2 : e - a = zL j
    · rw [zbr_t (by rw [q2]), zlt_e, decide_eq_true q2, Bool.true_and]
      refine zup (P := fun f k => (∀ i, i < k → decide (nI (tp (a + i)) = zcb j i) = true) → f_X9_isWord_28 2 f (1000 + j) (nI k) σc = _) (zL j) ?_ ?_ 0 (Nat.zero_le _) FU (by unfold FU; omega) (fun i hi => absurd hi (Nat.not_lt_zero i))
      · intro f hall
        rw [f_X9_isWord_28, zck_t ⟨by omega, by omega⟩, zslen_e, zbr_t (Int32.le_refl _), al_iff.mpr hall]; rfl
      · intro f k hk ih hall
        have hb1 := hb (a + k) (by omega)
        rw [f_X9_isWord_28, zck_t ⟨by omega, by omega⟩, zslen_e, zbr_f (nI_ge hk (by omega)), c3, nI_add, r0, k3, zck_t (zok_p (by omega) (by decide)), zgl, zck_t ⟨⟨by omega, by omega⟩, by rw [nI_toInt (by omega)]; omega, by rw [nI_toInt (by omega)]; omega⟩, nI_clamp (by omega), hb1.2.1, sb_s (y4 k (by omega)).2, zsch_e j (by omega)]
        by_cases q3 : nI (tp (a + k)) = zcb j k
        · rw [zbr_t q3, zlt_e, nI_1]
          exact ih (fun i hi => by
            by_cases z : i = k
            · subst z; exact decide_eq_true q3
            · exact hall i (by omega))
        · rw [zbr_f q3, al_ff hk (decide_eq_false q3)]; rfl
    · rw [zbr_f (fun z => q2 ((nI_eq (by omega) (by omega)).mp z)), decide_eq_false q2]; rfl
  · rw [zbr_f (show ¬ nI kd = (1 : Int32) from fun z => q1 ((nI_eq (b := 1) (by omega) (by decide)).mp z)), decide_eq_false q1]; rfl
theorem M_isWord (hK : TK tp n a e kd σc σm) (hR : σm.2 = RM) (h13 : σm.1 0 13 = 0) (h9 : n ≤ 900) {j : Nat} (hj : j < 18) : f_X11_isWord 0 (1000 + j) σm = some (bI (wI tp a e kd j), σm) := by
  obtain ⟨⟨x1, x2, x3⟩, -, ⟨m4, m5, m6⟩, hw, -⟩ := hK
  have hz := zL_b j hj
  unfold f_X11_isWord wI
  rw [zck_t w0, zbr_t h13, m6]
  by_cases q1 : kd = 1
  · obtain ⟨y1, y2, y3, y4⟩ := hw q1
    rw [zbr_t ((tkM_2 x3).mpr q1), zck_t ⟨by omega, by omega⟩, y3, zslen_e, decide_eq_true q1, Bool.true_and]
    by_cases q2 : e - a = zL j
    · rw [zbr_t (by rw [q2]), zlt_e, zlt_e, decide_eq_true q2, Bool.true_and]
      refine zup (P := fun f k => f_X11_isWord_32 0 f (1000 + j) (bI (al (fun k => decide (nI (tp (a + k)) = zcb j k)) k)) (nI k) σm = _) (zL j) ?_ ?_ 0 (Nat.zero_le _) FU (by unfold FU; omega)
      · intro f
        rw [f_X11_isWord_32, y3, q2, zbr_t (Int32.le_refl _), zck_t (bI_z _)]
      · intro f k hk ih
        rw [f_X11_isWord_32, y3, zbr_f (nI_ge (by omega) (by omega))]
        rw [al_snoc] at ih
        unfold f_X11_isWord_62 f_X11_isWord_63
        cases e1 : al (fun k => decide (nI (tp (a + k)) = zcb j k)) k
        · rw [e1, Bool.false_and] at ih
          rw [zbr_t (by rfl), zlt_e, zlt_e, nI_1]
          exact ih
        · rw [e1, Bool.true_and] at ih
          rw [zbr_f (by decide), mr12 hR, w2, zck_t (zok_p (by omega) (by decide)), zgl, zck_t ⟨⟨by omega, by omega⟩, by rw [nI_toInt (by omega)]; omega, by rw [nI_toInt (by omega)]; omega⟩, nI_clamp (by omega), (y4 k (by omega)).1, zsch_e j (by omega)]
          by_cases q3 : nI (tp (a + k)) = zcb j k
          · rw [decide_eq_true q3] at ih
            rw [zbr_t q3, zlt_e, zlt_e, nI_1]
            exact ih
          · rw [decide_eq_false q3] at ih
            rw [zbr_f q3, zlt_e, zlt_e, nI_1]
            exact ih
    · rw [zbr_f (fun z => q2 ((nI_eq (by omega) (by omega)).mp z)), decide_eq_false q2]; rfl
  · rw [zbr_f (fun z => q1 ((tkM_2 x3).mp z)), decide_eq_false q1]; rfl
def lwN (tp : Nat → Nat) (a e kd : Nat) : Nat := if wI tp a e kd 0 then 1 else if wI tp a e kd 1 then 2 else if wI tp a e kd 2 then 3 else if wI tp a e kd 3 then 4 else if wI tp a e kd 4 then 5 else if wI tp a e kd 5 then 6 else if wI tp a e kd 6 then 7 else if wI tp a e kd 7 then 8 else if wI tp a e kd 8 then 9 else 0
theorem k1 : WC.2 1 = (8, 0) := rfl
theorem k4 : WC.2 4 = (4, 0) := rfl
theorem C_lineWord (hT : TP tp n σc σm) (hK : TK tp n a e kd σc σm) (r0 : σc.2 2 0 = 3) (r10 : σc.2 1 0 = 2) : f_X8_lineWord 1 σc = some (nI (lwN tp a e kd), σc) := by
  have w := fun j hj => C_isWord hT hK r0 (j := j) hj
  unfold f_X8_lineWord lwN
  rw [zck_t k1, r10, zck_t k2, w 0 (by decide), zbd_s]
  cases wI tp a e kd 0
  · rw [zbr_t (by rfl), r10, zck_t k2, w 1 (by decide), zbd_s]
    cases wI tp a e kd 1
    · rw [zbr_t (by rfl), r10, zck_t k2, w 2 (by decide), zbd_s]
      cases wI tp a e kd 2
      · rw [zbr_t (by rfl), r10, zck_t k2, w 3 (by decide), zbd_s]
        cases wI tp a e kd 3
        · rw [zbr_t (by rfl), r10, zck_t k2, w 4 (by decide), zbd_s]
          cases wI tp a e kd 4
          · rw [zbr_t (by rfl), r10, zck_t k2, w 5 (by decide), zbd_s]
            cases wI tp a e kd 5
            · rw [zbr_t (by rfl), r10, zck_t k2, w 6 (by decide), zbd_s]
              cases wI tp a e kd 6
              · rw [zbr_t (by rfl), r10, zck_t k2, w 7 (by decide), zbd_s]
                cases wI tp a e kd 7
                · rw [zbr_t (by rfl), r10, zck_t k2, w 8 (by decide), zbd_s]
                  cases wI tp a e kd 8
                  · rfl
                  · rfl
                · rfl
              · rfl
            · rfl
          · rfl
        · rfl
      · rfl
    · rfl
  · rfl
/-- a fault, as either side keeps it -/
def wr (σ : zS) (x y : Int32) : zS := zpi (zpi (zpi σ 0 13 1) 0 9 x) 0 10 y
def bl (σ : zS) (x y : Int32) : zS := zpi (zpi σ 1 3 x) 1 4 y
theorem M_wrong (h13 : σm.1 0 13 = 0) (x y : Int32) : f_X11_wrong 0 x y σm = some ((), wr σm x y) := by
  unfold f_X11_wrong
  rw [zck_t w0, zbr_t h13]
  rfl
theorem wr_13 (σ : zS) (x y : Int32) : (wr σ x y).1 0 13 = 1 := by unfold wr; rw [zpi_ne _ _ (by omega), zpi_ne _ _ (by omega), zpi_eq]
theorem C_blame (hK : TK tp n a e kd σc σm) (r10 : σc.2 1 0 = 2) (x : Int32) : f_X8_blame 1 x σc = some (0, bl σc x (nI a)) := by
  unfold f_X8_blame
  rw [zck_t k1, r10, zck_t k2, hK.2.1.1]
  rfl
theorem C_blameAt (x y : Int32) : f_X8_blameAt 1 x y σc = some (0, bl σc x y) := rfl
def BD (σc σm : zS) : Prop := ∃ f, 1 ≤ f ∧ f ≤ 7 ∧ σc.1 1 3 = nI f ∧ σm.1 0 9 = nI f ∧ σm.1 0 13 = 1 ∧ σc.1 1 4 = σm.1 0 10
theorem BD_w (σc σm : zS) {f : Nat} (h1 : 1 ≤ f) (h2 : f ≤ 7) (y : Int32) : BD (bl σc (nI f) y) (wr σm (nI f) y) := by
  refine ⟨f, h1, h2, ?_, ?_, wr_13 _ _ _, ?_⟩
  · unfold bl; rw [zpi_ne _ _ (by omega), zpi_eq]
  · unfold wr; rw [zpi_ne _ _ (by omega), zpi_eq]
  · unfold bl wr; rw [zpi_eq, zpi_eq]
theorem M_mustName (hK : TK tp n a e kd σc σm) (hR : σm.2 = RM) (h13 : σm.1 0 13 = 0) (h9 : n ≤ 900) : f_X11_mustName 0 σm = if kd = 1 ∧ lwN tp a e kd = 0 then some ((), σm) else some ((), wr σm 1 (nI a)) := by
  have w := fun j hj => M_isWord hK hR h13 h9 (j := j) hj
  obtain ⟨⟨x1, x2, x3⟩, -, ⟨m4, m5, m6⟩, -⟩ := hK
  have bad : f_X11_mustName_89 0 σm = some ((), wr σm 1 (nI a)) := by
    unfold f_X11_mustName_89
    rw [m4, M_wrong h13, zbd_s]
  unfold f_X11_mustName lwN
  rw [zck_t w0, m6]
  by_cases q1 : kd = 1
  · rw [zbr_t ((tkM_2 x3).mpr q1), w 0 (by decide), zbd_s]
    have eq1 : ∀ (p : Prop) (ic : Decidable p), (@ite _ (kd = 1 ∧ p) instDecidableAnd (some ((), σm)) (some ((), wr σm 1 (nI a)))) = if p then some ((), σm) else some ((), wr σm 1 (nI a)) := by
      intro p ic
      by_cases hp : p
      · rw [if_pos ⟨q1, hp⟩, if_pos hp]
      · rw [if_neg (fun z => hp z.2), if_neg hp]
    rw [eq1]
    cases wI tp a e kd 0
    · rw [zbr_t (by rfl), w 1 (by decide), zbd_s]
      cases wI tp a e kd 1
      · rw [zbr_t (by rfl), w 2 (by decide), zbd_s]
        cases wI tp a e kd 2
        · rw [zbr_t (by rfl), w 3 (by decide), zbd_s]
          cases wI tp a e kd 3
          · rw [zbr_t (by rfl), w 4 (by decide), zbd_s]
            cases wI tp a e kd 4
            · rw [zbr_t (by rfl), w 5 (by decide), zbd_s]
              cases wI tp a e kd 5
              · rw [zbr_t (by rfl), w 6 (by decide), zbd_s]
                cases wI tp a e kd 6
                · rw [zbr_t (by rfl), w 7 (by decide), zbd_s]
                  cases wI tp a e kd 7
                  · rw [zbr_t (by rfl), w 8 (by decide), zbd_s]
                    cases wI tp a e kd 8
                    · rfl
                    · rw [zbr_f (by decide), bad]; rfl
                  · rw [zbr_f (by decide), bad]; rfl
                · rw [zbr_f (by decide), bad]; rfl
              · rw [zbr_f (by decide), bad]; rfl
            · rw [zbr_f (by decide), bad]; rfl
          · rw [zbr_f (by decide), bad]; rfl
        · rw [zbr_f (by decide), bad]; rfl
      · rw [zbr_f (by decide), bad]; rfl
    · rw [zbr_f (by decide), bad]; rfl
  · rw [zbr_f (fun z => q1 ((tkM_2 x3).mp z)), bad, if_neg (fun z => q1 z.1)]
end WD
/-! the reference, once it has failed, goes on without a change -/
section MF
variable {σ : zS}
theorem Mf_isWord (h : σ.1 0 13 = 1) (w : Nat) : f_X11_isWord 0 w σ = some (0, σ) := by unfold f_X11_isWord; rw [zck_t w0, zbr_f (by rw [h]; decide)]; rfl
theorem Mf_takesWord (h : σ.1 0 13 = 1) (w : Nat) : f_X11_takesWord 0 w σ = some (0, σ) := by unfold f_X11_takesWord; rw [zck_t w0, Mf_isWord h, zbd_s, zbr_t (by rfl)]; rfl
theorem Mf_must (h : σ.1 0 13 = 1) (w : Nat) : f_X11_must 0 w σ = some ((), σ) := by unfold f_X11_must; rw [zck_t w0, zbr_f (by rw [h]; decide)]
theorem Mf_pass (h : σ.1 0 13 = 1) : f_X11_pass 0 σ = some ((), σ) := by unfold f_X11_pass; rw [zck_t w0, zbr_f (by rw [h]; decide)]
theorem Mf_named (h : σ.1 0 13 = 1) (x y : Int32) : f_X11_named 0 x y σ = some (0, σ) := by unfold f_X11_named; rw [zck_t w0, zbr_f (by rw [h]; decide)]
theorem Mf_newName (h : σ.1 0 13 = 1) (x : Int32) : f_X11_newName 0 x σ = some ((), σ) := by unfold f_X11_newName; rw [zck_t w0, zbr_f (by rw [h]; decide)]
theorem Mf_numberHere (h : σ.1 0 13 = 1) (x y : Int32) : f_X11_numberHere 0 x y σ = some (x, σ) := by unfold f_X11_numberHere; rw [zck_t w0, zbr_f (by rw [h]; decide)]
theorem Mf_number (h : σ.1 0 13 = 1) (x y : Int32) : f_X11_number 0 x y σ = some (x, σ) := by unfold f_X11_number; rw [zck_t w0, Mf_numberHere h, zbd_s, zlt_e, Mf_pass h, zbd_s]
theorem Mf_after (h : σ.1 0 13 = 1) (w : Nat) (x y : Int32) : f_X11_after 0 w x y σ = some (x, σ) := by unfold f_X11_after; rw [zck_t w0, Mf_must h, zbd_s, Mf_number h, zbd_s]
theorem Mf_placePassed (h : σ.1 0 13 = 1) : f_X11_placePassed 0 σ = some (0, σ) := by unfold f_X11_placePassed; rw [zck_t w0, Mf_named h, zbd_s, zlt_e, Mf_pass h, zbd_s]
theorem Mf_handPassed (h : σ.1 0 13 = 1) : f_X11_handPassed 0 σ = some (0, σ) := by unfold f_X11_handPassed; rw [zck_t w0, Mf_named h, zbd_s, zlt_e, Mf_pass h, zbd_s]
theorem Mf_say (h : σ.1 0 13 = 1) : f_X11_say 0 σ = some (0, σ) := by unfold f_X11_say; rw [zck_t w0, Mf_takesWord h, zbd_s, zbr_t (by rfl), Mf_must h, zbd_s]
theorem Mf_wrong (h : σ.1 0 13 = 1) (x y : Int32) : f_X11_wrong 0 x y σ = some ((), σ) := by unfold f_X11_wrong; rw [zck_t w0, zbr_f (by rw [h]; decide)]
end MF
