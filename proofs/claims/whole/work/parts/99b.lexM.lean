/-! the reference's next token, and both together -/
section LM
variable {tp : Nat → Nat} {n : Nat} {σ : zS}
theorem M_nextAt (h9 : n ≤ 900) (h3 : σ.1 0 3 = nI n) (hR : σ.2 = RM) (hb : ∀ k, k < n → tp k < 256 ∧ σ.1 1 k = nI (tp k)) {e a : Nat} (he : e ≤ n) (h5 : σ.1 0 5 = nI e) (ha1 : e ≤ a) (ha2 : a ≤ n) (hbl : ∀ k, e ≤ k → k < a → tp k = 32) (hnb : a < n → tp a ≠ 32) :
    ∃ S, fr PtM σ S ∧ S.1 0 4 = nI a ∧ S.1 0 7 = 0 ∧ S.1 0 8 = 0 ∧ f_X11_next 0 σ = zbr (seeI tp n a = (-1 : Int32)) (zlt (zpi S 0 6 (0 : Int32)) (fun σ34 => zlt (zpi σ34 0 5 (nI a)) (fun σ35 => some ((), σ35)))) (zbr (bI (decide (a < n) && smb (tp a)) = 0) (zbr (bI (decide (a < n) && dgb (tp a)) = 0) (zlt (zpi S 0 5 (nI a + (1 : Int32))) (fun σ40 => zbr (seeI tp n a = (59 : Int32)) (zlt (zpi σ40 0 6 (seeI tp n a)) (fun σ41 => some ((), σ41))) (zlt (zpi σ40 0 6 (1 : Int32)) (fun σ42 => some ((), σ42))))) (f_X11_next_152 0 FU (nI a) 0 S)) (f_X11_next_67 0 FU (nI a) S)) := by
  have hs : ∀ τ, fr PtM σ τ → ∀ k, k < 2000 → f_X11_see 0 (nI k) τ = some (seeI tp n k, τ) := fun τ hF k hk => M_see h9 ((hF.2 0 3 (by unfold PtM; omega)).trans h3) (hF.1.trans hR) (fun j hj => ⟨(hb j hj).1, (hF.2 1 j (by unfold PtM; omega)).trans (hb j hj).2⟩) hk
  have pre : ∃ g, f_X11_next 0 σ = f_X11_next_5 0 (g + 1) (nI a) σ := by
    unfold f_X11_next
    rw [zck_t w0, zlt_e, h5]
    have key : ∀ d k f, k + d = a → e ≤ k → d < f → ∃ g, f_X11_next_5 0 f (nI k) σ = f_X11_next_5 0 (g + 1) (nI a) σ := by
      intro d
      induction d with
      | zero =>
        intro k f hk _ hf
        have : k = a := by omega
        subst this
        exact ⟨f - 1, by rw [show f - 1 + 1 = f by omega]⟩
      | succ d ih =>
        intro k f hk hek hf
        obtain ⟨f, rfl⟩ : ∃ g, f = g + 1 := ⟨f - 1, by omega⟩
        obtain ⟨g, e1⟩ := ih (k + 1) f (by omega) (by omega) (by omega)
        refine ⟨g, ?_⟩
        rw [f_X11_next_5, hs σ (fr_r _ σ) k (by omega), zbd_s, zbr_t (show seeI tp n k = (32 : Int32) by unfold seeI; rw [if_pos (by omega), hbl k hek (by omega)]; rfl), zlt_e, nI_1]
        exact e1
    exact key (a - e) e FU (by omega) (Nat.le_refl _) (by unfold FU; omega)
  obtain ⟨g, eg⟩ := pre
  have hF1 : fr PtM σ (zpi σ 0 4 (nI a)) := (fr_r _ σ).pi _ (Or.inr ⟨rfl, by omega, by omega⟩)
  have hF : fr PtM σ (zpi (zpi (zpi σ 0 4 (nI a)) 0 8 0) 0 7 0) := (hF1.pi _ (Or.inr ⟨rfl, by omega, by omega⟩)).pi _ (Or.inr ⟨rfl, by omega, by omega⟩)
  refine ⟨zpi (zpi (zpi σ 0 4 (nI a)) 0 8 0) 0 7 0, hF, ?_, zpi_eq _ _ _ _, ?_, ?_⟩
  · rw [zpi_ne _ _ (by omega), zpi_ne _ _ (by omega), zpi_eq]
  · rw [zpi_ne _ _ (by omega), zpi_eq]
  · have n32 : ¬ seeI tp n a = (32 : Int32) := by
      unfold seeI
      by_cases q : a < n
      · rw [if_pos q]
        exact fun z => hnb q ((nI_eq (b := 32) (by have := hb a q; omega) (by decide)).mp z)
      · rw [if_neg q]; decide
    rw [eg, f_X11_next_5, hs σ (fr_r _ σ) a (by omega), zbd_s, zbr_f n32, zlt_e, hs _ hF1 a (by omega), zbd_s, zlt_e, zlt_e, zlt_e, M_isSmall _ (fun z => (hb a z).1), zbd_s, M_isDigit _ (fun z => (hb a z).1), zbd_s, zlt_e (0 : Int32)]
theorem M_word (h9 : n ≤ 900) (h3 : σ.1 0 3 = nI n) (hR : σ.2 = RM) (hb : ∀ k, k < n → tp k < 256 ∧ σ.1 1 k = nI (tp k)) {a e' : Nat} (hae : a < e') (hen : e' ≤ n) (hrun : ∀ k, a ≤ k → k < e' → smb (tp k) = true) (hend : e' < n → smb (tp e') = false) (h8 : σ.1 0 8 = 0) : ∃ σ', f_X11_next_67 0 FU (nI a) σ = some ((), σ') ∧ fr PtM σ σ' ∧ σ'.1 0 4 = σ.1 0 4 ∧ σ'.1 0 5 = nI e' ∧ σ'.1 0 6 = nI (if e' ≤ a + 8 then 2 else 1) ∧ σ'.1 0 8 = nI (e' - a) ∧ ∀ j, j < e' - a → j < 8 → σ'.1 2 j = nI (tp (a + j)) := by
  have hs : ∀ τ, fr PtM σ τ → ∀ k, k < 2000 → f_X11_see 0 (nI k) τ = some (seeI tp n k, τ) := fun τ hF k hk => M_see h9 ((hF.2 0 3 (by unfold PtM; omega)).trans h3) (hF.1.trans hR) (fun j hj => ⟨(hb j hj).1, (hF.2 1 j (by unfold PtM; omega)).trans (hb j hj).2⟩) hk
  have run : ∀ d k f τ, k + d = e' → a ≤ k → d < f → fr PtM σ τ → τ.1 0 4 = σ.1 0 4 → τ.1 0 8 = nI (k - a) → (∀ j, j < k - a → j < 8 → τ.1 2 j = nI (tp (a + j))) → ∃ σ', f_X11_next_67 0 f (nI k) τ = some ((), σ') ∧ fr PtM σ σ' ∧ σ'.1 0 4 = σ.1 0 4 ∧ σ'.1 0 5 = nI e' ∧ σ'.1 0 6 = nI (if e' ≤ a + 8 then 2 else 1) ∧ σ'.1 0 8 = nI (e' - a) ∧ ∀ j, j < e' - a → j < 8 → σ'.1 2 j = nI (tp (a + j)) := by
    intro d
    induction d with
    | zero =>
      intro k f τ hk hak hf hF t4 t8 t2
      obtain ⟨f, rfl⟩ : ∃ g, f = g + 1 := ⟨f - 1, by omega⟩
      have : k = e' := by omega
      subst this
      have hno : (decide (k < n) && smb (tp k)) = false := by
        by_cases y : k < n
        · rw [hend y, Bool.and_false]
        · rw [decide_eq_false y]; rfl
      rw [f_X11_next_67, hs τ hF k (by omega), zbd_s, M_isSmall _ (fun z => (hb k z).1), zbd_s, hno, zbr_t (by rfl), zlt_e, zpi_ne _ _ (by omega), t8]
      unfold f_X11_next_137
      have hF2 : fr PtM σ (zpi τ 0 5 (nI k)) := hF.pi _ (Or.inr ⟨rfl, by omega, by omega⟩)
      by_cases y : k ≤ a + 8
      · rw [zbr_t (show nI (k - a) ≤ (8 : Int32) from nI_le (b := 8) (by omega) (by decide)), zck_t w0, zlt_e, if_pos y]
        refine ⟨_, rfl, hF2.pi _ (Or.inr ⟨rfl, by omega, by omega⟩), ?_, ?_, zpi_eq _ _ _ _, ?_, fun j h1 h2 => ?_⟩
        · rw [zpi_ne _ _ (by omega), zpi_ne _ _ (by omega)]; exact t4
        · rw [zpi_ne _ _ (by omega), zpi_eq]
        · rw [zpi_ne _ _ (by omega), zpi_ne _ _ (by omega)]; exact t8
        · rw [zpi_ne _ _ (by omega), zpi_ne _ _ (by omega)]; exact t2 j h1 h2
      · rw [zbr_f (show ¬ nI (k - a) ≤ (8 : Int32) from nI_ge (a := 8) (by omega) (by omega)), zck_t w0, zlt_e, if_neg y]
        refine ⟨_, rfl, hF2.pi _ (Or.inr ⟨rfl, by omega, by omega⟩), ?_, ?_, zpi_eq _ _ _ _, ?_, fun j h1 h2 => ?_⟩
        · rw [zpi_ne _ _ (by omega), zpi_ne _ _ (by omega)]; exact t4
        · rw [zpi_ne _ _ (by omega), zpi_eq]
        · rw [zpi_ne _ _ (by omega), zpi_ne _ _ (by omega)]; exact t8
        · rw [zpi_ne _ _ (by omega), zpi_ne _ _ (by omega)]; exact t2 j h1 h2
    | succ d ih =>
      intro k f τ hk hak hf hF t4 t8 t2
      obtain ⟨f, rfl⟩ : ∃ g, f = g + 1 := ⟨f - 1, by omega⟩
      have y : k < n := by omega
      rw [f_X11_next_67, hs τ hF k (by omega), zbd_s, M_isSmall _ (fun z => (hb k z).1), zbd_s, decide_eq_true y, hrun k hak (by omega), zbr_f (by decide), t8]
      unfold f_X11_next_101
      by_cases q8 : 8 ≤ k - a
      · rw [zbr_t (show (8 : Int32) ≤ nI (k - a) from nI_le (a := 8) q8 (by omega)), zlt_e, t8, nI_1, zlt_e, nI_1]
        refine ih (k + 1) f _ (by omega) (by omega) (by omega) (hF.pi _ (Or.inr ⟨rfl, by omega, by omega⟩)) ?_ ?_ (fun j h1 h2 => ?_)
        · rw [zpi_ne _ _ (by omega)]; exact t4
        · rw [zpi_eq, show k + 1 - a = k - a + 1 by omega]
        · rw [zpi_ne _ _ (by omega)]; exact t2 j (by omega) h2
      · rw [zbr_f (show ¬ (8 : Int32) ≤ nI (k - a) from nI_ge (b := 8) (by omega) (by decide)), hs τ hF k (by omega), zbd_s, mr12 (hF.1.trans hR), w2, zck_t (zok_p (by omega) (by decide)), nI_clamp (by omega), zlt_e, zlt_e, zpi_ne _ _ (by omega), t8, nI_1, zlt_e, nI_1]
        refine ih (k + 1) f _ (by omega) (by omega) (by omega) ((hF.pi _ (Or.inl rfl)).pi _ (Or.inr ⟨rfl, by omega, by omega⟩)) ?_ ?_ (fun j h1 h2 => ?_)
        · rw [zpi_ne _ _ (by omega), zpi_ne _ _ (by omega)]; exact t4
        · rw [zpi_eq, show k + 1 - a = k - a + 1 by omega]
        · rw [zpi_ne _ _ (by omega)]
          by_cases z : j = k - a
          · subst z
            rw [zpi_eq, show a + (k - a) = k by omega]
            unfold seeI
            rw [if_pos y]
          · rw [zpi_ne _ _ (by omega)]; exact t2 j (by omega) h2
  exact run (e' - a) a FU σ (by omega) (Nat.le_refl _) (by unfold FU; omega) (fr_r _ σ) rfl (by rw [h8, Nat.sub_self]; rfl) (fun j h1 => by omega)
theorem M_whole (h9 : n ≤ 900) (h3 : σ.1 0 3 = nI n) (hR : σ.2 = RM) (hb : ∀ k, k < n → tp k < 256 ∧ σ.1 1 k = nI (tp k)) {a e' : Nat} (hae : a < e') (hen : e' ≤ n) (hrun : ∀ k, a ≤ k → k < e' → dgb (tp k) = true) (hend : e' < n → dgb (tp e') = false) (h7 : σ.1 0 7 = 0) : ∃ σ', f_X11_next_152 0 FU (nI a) 0 σ = some ((), σ') ∧ fr PtM σ σ' ∧ σ'.1 0 4 = σ.1 0 4 ∧ σ'.1 0 5 = nI e' ∧ σ'.1 0 6 = nI (if e' ≤ a + 3 then 3 else 1) ∧ (e' ≤ a + 3 → σ'.1 0 7 = nI (val tp a (e' - a))) := by
  have hs : ∀ τ, fr PtM σ τ → ∀ k, k < 2000 → f_X11_see 0 (nI k) τ = some (seeI tp n k, τ) := fun τ hF k hk => M_see h9 ((hF.2 0 3 (by unfold PtM; omega)).trans h3) (hF.1.trans hR) (fun j hj => ⟨(hb j hj).1, (hF.2 1 j (by unfold PtM; omega)).trans (hb j hj).2⟩) hk
  have run : ∀ d k f τ, k + d = e' → a ≤ k → d < f → fr PtM σ τ → τ.1 0 4 = σ.1 0 4 → (k ≤ a + 3 → τ.1 0 7 = nI (val tp a (k - a))) → ∃ σ', f_X11_next_152 0 f (nI k) (nI (k - a)) τ = some ((), σ') ∧ fr PtM σ σ' ∧ σ'.1 0 4 = σ.1 0 4 ∧ σ'.1 0 5 = nI e' ∧ σ'.1 0 6 = nI (if e' ≤ a + 3 then 3 else 1) ∧ (e' ≤ a + 3 → σ'.1 0 7 = nI (val tp a (e' - a))) := by
    intro d
    induction d with
    | zero =>
      intro k f τ hk hak hf hF t4 t7
      obtain ⟨f, rfl⟩ : ∃ g, f = g + 1 := ⟨f - 1, by omega⟩
      have : k = e' := by omega
      subst this
      have hno : (decide (k < n) && dgb (tp k)) = false := by
        by_cases y : k < n
        · rw [hend y, Bool.and_false]
        · rw [decide_eq_false y]; rfl
      rw [f_X11_next_152, hs τ hF k (by omega), zbd_s, M_isDigit _ (fun z => (hb k z).1), zbd_s, hno, zbr_t (by rfl), zlt_e]
      unfold f_X11_next_213
      have hF2 : fr PtM σ (zpi τ 0 5 (nI k)) := hF.pi _ (Or.inr ⟨rfl, by omega, by omega⟩)
      by_cases y : k ≤ a + 3
      · rw [zbr_t (show nI (k - a) ≤ (3 : Int32) from nI_le (b := 3) (by omega) (by decide)), zck_t w0, zlt_e, if_pos y]
        refine ⟨_, rfl, hF2.pi _ (Or.inr ⟨rfl, by omega, by omega⟩), ?_, ?_, zpi_eq _ _ _ _, fun _ => ?_⟩
        · rw [zpi_ne _ _ (by omega), zpi_ne _ _ (by omega)]; exact t4
        · rw [zpi_ne _ _ (by omega), zpi_eq]
        · rw [zpi_ne _ _ (by omega), zpi_ne _ _ (by omega)]; exact t7 y
      · rw [zbr_f (show ¬ nI (k - a) ≤ (3 : Int32) from nI_ge (a := 3) (by omega) (by omega)), zck_t w0, zlt_e, if_neg y]
        refine ⟨_, rfl, hF2.pi _ (Or.inr ⟨rfl, by omega, by omega⟩), ?_, ?_, zpi_eq _ _ _ _, fun z => absurd z y⟩
        · rw [zpi_ne _ _ (by omega), zpi_ne _ _ (by omega)]; exact t4
        · rw [zpi_ne _ _ (by omega), zpi_eq]
    | succ d ih =>
      intro k f τ hk hak hf hF t4 t7
      obtain ⟨f, rfl⟩ : ∃ g, f = g + 1 := ⟨f - 1, by omega⟩
      have y : k < n := by omega
      have hdg := hrun k hak (by omega)
      have hdg2 : 48 ≤ tp k ∧ tp k ≤ 57 := of_decide_eq_true hdg
      rw [f_X11_next_152, hs τ hF k (by omega), zbd_s, M_isDigit _ (fun z => (hb k z).1), zbd_s, decide_eq_true y, hdg, zbr_f (by decide)]
      unfold f_X11_next_188
      have e1 : nI (k - a) + (1 : Int32) = nI (k + 1 - a) := by rw [nI_1, show k + 1 - a = k - a + 1 by omega]
      by_cases q3 : 3 ≤ k - a
      · rw [zbr_t (show (3 : Int32) ≤ nI (k - a) from nI_le (a := 3) q3 (by omega)), zlt_e, zlt_e, e1, nI_1]
        exact ih (k + 1) f τ (by omega) (by omega) (by omega) hF t4 (fun z => by omega)
      · have es : seeI tp n k = nI (tp k) := if_pos y
        rw [zbr_f (show ¬ (3 : Int32) ≤ nI (k - a) from nI_ge (b := 3) (by omega) (by decide)), hs τ hF k (by omega), zbd_s, t7 (by omega), es, val_I hdg2.1, zlt_e, zlt_e, zlt_e, e1, nI_1]
        refine ih (k + 1) f _ (by omega) (by omega) (by omega) (hF.pi _ (Or.inr ⟨rfl, by omega, by omega⟩)) ?_ (fun _ => ?_)
        · rw [zpi_ne _ _ (by omega)]; exact t4
        · rw [zpi_eq, show k + 1 - a = (k - a) + 1 by omega, val, show a + (k - a) = k by omega]
  have := run (e' - a) a FU σ (by omega) (Nat.le_refl _) (by unfold FU; omega) (fr_r _ σ) rfl (fun _ => by rw [h7, Nat.sub_self]; rfl)
  rw [Nat.sub_self] at this
  exact this
end LM
/-- both go on to the next token, and it is the same -/
theorem N_next {tp : Nat → Nat} {n : Nat} {σc σm : zS} (h : TP tp n σc σm) (r0 : σc.2 2 0 = 3) (hR : σm.2 = RM) {e : Nat} (he : e ≤ n) (hc4 : σc.1 2 4 = nI e) (hm5 : σm.1 0 5 = nI e) :
    ∃ a e' kd σc' σm', f_X9_next 2 σc = some ((), σc') ∧ f_X11_next 0 σm = some ((), σm') ∧ fr PtC σc σc' ∧ fr PtM σm σm' ∧ e ≤ a ∧ TK tp n a e' kd σc' σm' := by
  obtain ⟨h9, h2, h3, hb⟩ := id h
  obtain ⟨a, a1, a2, a3, a4⟩ := run_ex (fun k => decide (tp k = 32)) (n - e) e n (by omega)
  have hbl : ∀ k, e ≤ k → k < a → tp k = 32 := fun k z1 z2 => of_decide_eq_true (a3 k z1 z2)
  have hnb : a < n → tp a ≠ 32 := fun z => of_decide_eq_false (a4 z)
  have hbm : ∀ k, k < n → tp k < 256 ∧ σm.1 1 k = nI (tp k) := fun k hk => ⟨(hb k hk).1, (hb k hk).2.2⟩
  obtain ⟨e', kd, σc', c1, c2, c3, c4, c5, c6, c7, cc⟩ := C_next h r0 he hc4 a1 a2 hbl hnb
  obtain ⟨S, s1, s2, s3, s4, s5⟩ := M_nextAt h9 h3 hR hbm he hm5 a1 a2 hbl hnb
  have S3 : S.1 0 3 = nI n := (s1.2 0 3 (by unfold PtM; omega)).trans h3
  have SR : S.2 = RM := s1.1.trans hR
  have Sb : ∀ k, k < n → tp k < 256 ∧ S.1 1 k = nI (tp k) := fun k hk => ⟨(hb k hk).1, (s1.2 1 k (by unfold PtM; omega)).trans (hb k hk).2.2⟩
  have hlt : a < n → ¬ seeI tp n a = (-1 : Int32) := fun q => by unfold seeI; rw [if_pos q]; exact nI_m1 (by have := (hb a q).1; omega)
  rcases cc with ⟨q, rfl, rfl⟩ | ⟨q, es, hae, hrun, hend, rfl⟩ | ⟨q, es, ed, hae, hrun, hend, rfl, c8⟩ | ⟨q, es, ed, rfl, rfl⟩
  · have e1 : seeI tp n e' = -1 := if_neg (by omega)
    rw [e1, zbr_t (by rfl), zlt_e, zlt_e] at s5
    refine ⟨e', e', 0, σc', _, c1, s5, c2, (s1.pi _ (Or.inr ⟨rfl, by omega, by omega⟩)).pi _ (Or.inr ⟨rfl, by omega, by omega⟩), a1, ⟨Nat.le_refl _, by omega, by omega⟩, ⟨c5, c6, c7⟩, ⟨?_, zpi_eq _ _ _ _, ?_⟩, fun z => by omega, fun z => by omega, fun z => by omega⟩
    · rw [zpi_ne _ _ (by omega), zpi_ne _ _ (by omega)]; exact s2
    · rw [zpi_ne _ _ (by omega), zpi_eq]; rfl
  · rw [zbr_f (hlt q), decide_eq_true q, es, zbr_f (by decide)] at s5
    obtain ⟨σm', w1, w2, w3, w4, w5, w6, w7⟩ := M_word h9 S3 SR Sb hae c4 hrun hend s4
    rw [w1] at s5
    refine ⟨a, e', _, σc', σm', c1, s5, c2, s1.tr w2, a1, ⟨c3, c4, by split <;> omega⟩, ⟨c5, c6, c7⟩, ⟨w3.trans s2, w4, ?_⟩, fun z => ?_, fun z => ?_, fun z => ?_⟩
    · rw [w5]
      by_cases y : e' ≤ a + 8
      · rw [if_pos y, if_pos y]; rfl
      · rw [if_neg y, if_neg y]; rfl
    · by_cases y : e' ≤ a + 8
      · refine ⟨hae, y, w6, fun k hk => ⟨w7 k hk (by omega), ?_⟩⟩
        have := of_decide_eq_true (hrun (a + k) (by omega) (by omega))
        omega
      · rw [if_neg y] at z; omega
    · by_cases y : e' ≤ a + 8
      · rw [if_pos y] at z; omega
      · rw [if_neg y] at z; omega
    · by_cases y : e' ≤ a + 8
      · rw [if_pos y] at z; omega
      · rw [if_neg y] at z; omega
  · rw [zbr_f (hlt q), decide_eq_true q, es, ed, zbr_t (by rfl), zbr_f (by decide)] at s5
    obtain ⟨σm', w1, w2, w3, w4, w5, w6⟩ := M_whole h9 S3 SR Sb hae c4 hrun hend s3
    rw [w1] at s5
    refine ⟨a, e', _, σc', σm', c1, s5, c2, s1.tr w2, a1, ⟨c3, c4, by split <;> omega⟩, ⟨c5, c6, c7⟩, ⟨w3.trans s2, w4, ?_⟩, fun z => ?_, fun z => ?_, fun z => ?_⟩
    · rw [w5]
      by_cases y : e' ≤ a + 3
      · rw [if_pos y, if_pos y]; rfl
      · rw [if_neg y, if_neg y]; rfl
    · by_cases y : e' ≤ a + 3
      · rw [if_pos y] at z; omega
      · rw [if_neg y] at z; omega
    · by_cases y : e' ≤ a + 3
      · refine ⟨_, ?_, c8, w6 y⟩
        have hv := val_b (tp := tp) (at_ := a) (e' - a) (fun j hj => of_decide_eq_true (hrun (a + j) (by omega) (by omega)))
        have hp : (10 : Nat) ^ (e' - a) ≤ 10 ^ 3 := Nat.pow_le_pow_right (by decide) (by omega)
        omega
      · rw [if_neg y] at z; omega
    · by_cases y : e' ≤ a + 3
      · rw [if_pos y] at z; omega
      · rw [if_neg y] at z; omega
  · rw [zbr_f (hlt q), decide_eq_true q, es, ed, zbr_t (by rfl), zbr_t (by rfl), zlt_e, nI_1] at s5
    have e1 : seeI tp n a = nI (tp a) := if_pos q
    have hF2 : fr PtM σm (zpi S 0 5 (nI (a + 1))) := s1.pi _ (Or.inr ⟨rfl, by omega, by omega⟩)
    rw [e1] at s5
    by_cases y : tp a = 59
    · rw [zbr_t (show nI (tp a) = (59 : Int32) by rw [y]; rfl), zlt_e] at s5
      refine ⟨a, a + 1, _, σc', _, c1, s5, c2, hF2.pi _ (Or.inr ⟨rfl, by omega, by omega⟩), a1, ⟨c3, c4, by split <;> omega⟩, ⟨c5, c6, c7⟩, ⟨?_, ?_, ?_⟩, fun z => ?_, fun z => ?_, fun _ => rfl⟩
      · rw [zpi_ne _ _ (by omega), zpi_ne _ _ (by omega)]; exact s2
      · rw [zpi_ne _ _ (by omega), zpi_eq]
      · rw [zpi_eq, if_pos y, y]; rfl
      · rw [if_pos y] at z; omega
      · rw [if_pos y] at z; omega
    · rw [zbr_f (show ¬ nI (tp a) = (59 : Int32) from fun z => y ((nI_eq (b := 59) (by have := (hb a q).1; omega) (by decide)).mp z)), zlt_e] at s5
      refine ⟨a, a + 1, _, σc', _, c1, s5, c2, hF2.pi _ (Or.inr ⟨rfl, by omega, by omega⟩), a1, ⟨c3, c4, by split <;> omega⟩, ⟨c5, c6, c7⟩, ⟨?_, ?_, ?_⟩, fun z => ?_, fun z => ?_, fun _ => rfl⟩
      · rw [zpi_ne _ _ (by omega), zpi_ne _ _ (by omega)]; exact s2
      · rw [zpi_ne _ _ (by omega), zpi_eq]
      · rw [zpi_eq, if_neg y]; rfl
      · rw [if_neg y] at z; omega
      · rw [if_neg y] at z; omega
