/-! faults on both sides, and new names -/
def BM (σ0 τ : zS) (f y : Int32) : Prop := τ.1 0 13 = 1 ∧ τ.1 0 9 = f ∧ τ.1 0 10 = y ∧ fr PMe σ0 τ
def BC (b : Bool) (σ0 τ : zS) (f y : Int32) : Prop := τ.1 1 3 = f ∧ τ.1 1 4 = y ∧ fr (PCe b) σ0 τ
theorem BM_w {σ0 σ : zS} (h : fr PMd σ0 σ) (f y : Int32) : BM σ0 (wr σ f y) f y := by
  refine ⟨wr_13 σ f y, ?_, ?_, ?_⟩
  · unfold wr; rw [zpi_ne _ _ (by omega), zpi_eq]
  · unfold wr; rw [zpi_eq]
  · unfold wr; exact (((h.mo (fun _ _ z => Or.inl z)).pi _ (Or.inr ⟨rfl, by omega⟩)).pi _ (Or.inr ⟨rfl, by omega⟩)).pi _ (Or.inr ⟨rfl, by omega⟩)
theorem BM.p {σ0 τ : zS} {f y : Int32} (h : BM σ0 τ f y) (k : Nat) (v : Int32) : BM σ0 (zpi τ 4 k v) f y :=
  ⟨(zpi_ne _ _ (by omega)).trans h.1, (zpi_ne _ _ (by omega)).trans h.2.1, (zpi_ne _ _ (by omega)).trans h.2.2.1, h.2.2.2.pi _ (Or.inl (by unfold PMd; omega))⟩
theorem BC_w {b : Bool} {σ0 σ : zS} (h : fr (PCd b) σ0 σ) (f y : Int32) : BC b σ0 (bl σ f y) f y := by
  refine ⟨?_, ?_, ?_⟩
  · unfold bl; rw [zpi_ne _ _ (by omega), zpi_eq]
  · unfold bl; rw [zpi_eq]
  · unfold bl; exact ((h.mo (fun _ _ z => Or.inl z)).pi _ (Or.inr ⟨rfl, Or.inl rfl⟩)).pi _ (Or.inr ⟨rfl, Or.inr rfl⟩)
/-- a line read on both sides -/
def OC (b : Bool) (tp : Nat → Nat) (n e0 : Nat) (σc σm : zS) (rc : Option (Int32 × zS)) (rm : Option (Unit × zS)) : Prop :=
  (∃ F R N a e kd τc τm, rc = some (1, τc) ∧ rm = some ((), τm) ∧ SS b tp n F R N a e kd τc τm ∧ VV tp n F R N ∧ F 9 = 1 ∧ fr (PCd b) σc τc ∧ fr PMd σm τm ∧ e0 ≤ a) ∨
  (∃ f y τc τm, 1 ≤ f ∧ f ≤ 7 ∧ rc = some (0, τc) ∧ rm = some ((), τm) ∧ BC b σc τc (nI f) y ∧ BM σm τm (nI f) y)
section NN
variable {b : Bool} {tp F R : Nat → Nat} {n a e kd : Nat} {N : nT} {σc σm : zS}
theorem OC_bad {e0 : Nat} {rc : Option (Int32 × zS)} {rm : Option (Unit × zS)} {f : Nat} {y : Int32} {τc τm : zS} (h1 : 1 ≤ f) (h2 : f ≤ 7) (hc : rc = some (0, τc)) (hm : rm = some ((), τm)) (gc : BC b σc τc (nI f) y) (gm : BM σm τm (nI f) y) : OC b tp n e0 σc σm rc rm := Or.inr ⟨f, y, τc, τm, h1, h2, hc, hm, gc, gm⟩
theorem Adv.c {e' a' kd' : Nat} {τc τm : zS} {e0 : Nat} (h : Adv b tp n F R N e0 σc σm a' e' kd' τc τm) : fr (PCd b) σc τc := h.2.1.mo (PtC_d b)
theorem Adv.m {e' a' kd' : Nat} {τc τm : zS} {e0 : Nat} (h : Adv b tp n F R N e0 σc σm a' e' kd' τc τm) : fr PMd σm τm := h.2.2.1.mo PtM_d
theorem TK.f {τc τm : zS} (h : TK tp n a e kd σc σm) (e1 : ∀ k, τc.1 2 k = σc.1 2 k) (e2 : ∀ k, 4 ≤ k → k ≤ 8 → τm.1 0 k = σm.1 0 k) (e3 : ∀ k, τm.1 2 k = σm.1 2 k) : TK tp n a e kd τc τm := by
  obtain ⟨x, ⟨c3, c4, c5⟩, ⟨m4, m5, m6⟩, hw, hv, hp⟩ := h
  refine ⟨x, ⟨(e1 3).trans c3, (e1 4).trans c4, (e1 5).trans c5⟩, ⟨(e2 4 (by omega) (by omega)).trans m4, (e2 5 (by omega) (by omega)).trans m5, (e2 6 (by omega) (by omega)).trans m6⟩, fun z => ?_, fun z => ?_, hp⟩
  · obtain ⟨w1, w2, w3, w4⟩ := hw z
    exact ⟨w1, w2, (e2 8 (by omega) (by omega)).trans w3, fun k hk => ⟨(e3 k).trans (w4 k hk).1, (w4 k hk).2⟩⟩
  · obtain ⟨v, v1, v2, v3⟩ := hv z
    exact ⟨v, v1, (e1 6).trans v2, (e2 7 (by omega) (by omega)).trans v3⟩
/-- the letters of a new name are written down -/
theorem M_keepName (hK : TK tp n a e kd σc σm) (hR : σm.2 = RM) (hk1 : kd = 1) (h9 : n ≤ 900) {m : Nat} (hm : m < 14) : ∃ τ, fr (fun x k => x = 4 ∧ (k = 69 + m ∨ (83 + 8 * m ≤ k ∧ k < 91 + 8 * m))) σm τ ∧ τ.1 4 (69 + m) = nI (e - a) ∧ (∀ k, k < e - a → τ.1 4 (83 + 8 * m + k) = nI (tp (a + k))) ∧ f_X11_newName_45 0 FU (nI m) 0 σm = zbd (f_X11_next 0 τ) (fun _ σ => some ((), σ)) := by
  obtain ⟨⟨x1, x2, x3⟩, -, ⟨m4, m5, m6⟩, hw, -⟩ := hK
  obtain ⟨y1, y2, y3, y4⟩ := hw hk1
  suffices key : ∀ k, k ≤ e - a → ∀ f, e - a - k < f → ∀ τ, fr (fun x k => x = 4 ∧ (k = 69 + m ∨ (83 + 8 * m ≤ k ∧ k < 91 + 8 * m))) σm τ → (∀ l, l < k → τ.1 4 (83 + 8 * m + l) = nI (tp (a + l))) → ∃ υ, fr (fun x k => x = 4 ∧ (k = 69 + m ∨ (83 + 8 * m ≤ k ∧ k < 91 + 8 * m))) σm υ ∧ υ.1 4 (69 + m) = nI (e - a) ∧ (∀ k, k < e - a → υ.1 4 (83 + 8 * m + k) = nI (tp (a + k))) ∧ f_X11_newName_45 0 f (nI m) (nI k) τ = zbd (f_X11_next 0 υ) (fun _ σ => some ((), σ)) from key 0 (Nat.zero_le _) FU (by unfold FU; omega) σm (fr_r _ _) (fun l hl => absurd hl (Nat.not_lt_zero l))
  refine zup (P := fun f k => ∀ τ, fr (fun x k => x = 4 ∧ (k = 69 + m ∨ (83 + 8 * m ≤ k ∧ k < 91 + 8 * m))) σm τ → (∀ l, l < k → τ.1 4 (83 + 8 * m + l) = nI (tp (a + l))) → ∃ υ, fr (fun x k => x = 4 ∧ (k = 69 + m ∨ (83 + 8 * m ≤ k ∧ k < 91 + 8 * m))) σm υ ∧ υ.1 4 (69 + m) = nI (e - a) ∧ (∀ k, k < e - a → υ.1 4 (83 + 8 * m + k) = nI (tp (a + k))) ∧ f_X11_newName_45 0 f (nI m) (nI k) τ = zbd (f_X11_next 0 υ) (fun _ σ => some ((), σ))) (e - a) ?_ ?_
  · intro f τ hF hall
    have q3 : τ.1 0 8 = nI (e - a) := (hF.2 0 8 (by omega)).trans y3
    refine ⟨zpi τ 4 (69 + m) (nI (e - a)), hF.pi _ (by omega), zpi_eq _ _ _ _, fun k hk => (zpi_ne _ _ (by omega)).trans (hall k hk), ?_⟩
    rw [f_X11_newName_45, q3, zbr_t (Int32.le_refl _), mr16 (hF.1.trans hR), w4, px69, zck_t (zok_p (by omega) (by decide)), zlt_e, nI_clamp (by omega)]
  · intro f k hk ih τ hF hall
    have q3 : τ.1 0 8 = nI (e - a) := (hF.2 0 8 (by omega)).trans y3
    have q2 : τ.1 2 k = nI (tp (a + k)) := (hF.2 2 k (by omega)).trans (y4 k hk).1
    obtain ⟨υ, g1, g2, g3, g4⟩ := ih (zpi τ 4 (83 + 8 * m + k) (nI (tp (a + k)))) (hF.pi _ (by omega)) (fun l hl => by
      by_cases z : l = k
      · rw [z, zpi_eq]
      · rw [zpi_ne _ _ (by omega)]; exact hall l (by omega))
    refine ⟨υ, g1, g2, g3, ?_⟩
    rw [f_X11_newName_45, q3, zbr_f (nI_ge hk (by omega)), mr12 (hF.1.trans hR), w2, zck_t (zok_p (by omega) (by decide)), mr16 (hF.1.trans hR), w4, px83, zck_t (zok_p (by omega) (by decide)), zlt_e, zlt_e, nI_clamp (by omega), nI_clamp (by omega), q2, nI_1]
    exact g4
theorem P_newName (h : SS b tp n F R N a e kd σc σm) (hV : VN tp n F N) (hb : F 1 ≤ 6 ∧ F 3 ≤ 4 ∧ F 4 ≤ 4) {s k : Nat} (hs : (s = 2 ∧ k = F 1 ∧ k < 6) ∨ (s = 4 ∧ k = F 3 ∧ k < 4) ∨ (s = 5 ∧ k = F 4 ∧ k < 4)) :
    (∃ a' e' kd' τc τm, nmN tp n N a e ∧ f_X8_passNewName 1 (nI s) (nI k) σc = some (1, τc) ∧ f_X11_newName 0 (nI (ixN (a, e - a, s, k))) σm = some ((), τm) ∧ SS b tp n F R (adN N (a, e - a, s, k)) a' e' kd' τc τm ∧ fr (PCd b) σc τc ∧ fr PMd σm τm ∧ e ≤ a') ∨ (∃ f, 1 ≤ f ∧ f ≤ 7 ∧ f_X8_passNewName 1 (nI s) (nI k) σc = some (0, bl σc (nI f) (nI a)) ∧ f_X11_newName 0 (nI (ixN (a, e - a, s, k))) σm = some ((), wr σm (nI f) (nI a))) := by
  have h0 := h
  obtain ⟨hT, hK, hD⟩ := h
  have h13 := hD.2.2.2.2.2.2.1
  obtain ⟨r0, r10, r11, -, r40, r41, r42, r43⟩ := hD.rs
  have hNC := hD.2.2.2.2.2.2.2.1
  have hNM := hD.2.2.2.2.2.2.2.2
  have hV1 := hV.1
  have hN13 : N.1 < 14 := by omega
  have bad18 : f_X8_passNewName_18 1 σc = some (0, bl σc (nI 1) (nI a)) := by
    unfold f_X8_passNewName_18
    rw [C_blame hK r10, zbd_s]; rfl
  have m35 : ∀ x f, f_X11_newName_35 0 x (wr σm f (nI a)) = some ((), wr σm f (nI a)) := fun x f => by
    unfold f_X11_newName_35
    rw [wr_13, zbr_f (by decide)]
  have lw9 : lwN tp a e kd < 10 := by
    unfold lwN
    repeat' (first | omega | split)
  have mn := M_mustName hK hD.2.1 h13 hT.1
  by_cases q1 : kd = 1 ∧ lwN tp a e kd = 0
  · rw [if_pos q1] at mn
    have ci := C_indexOf hT hK r0 q1.1 r40 r41 hNC hV hb
    have mf := M_find hK hD.2.1 q1.1 hT.1 hNM hV hb
    obtain ⟨⟨x1, x2, x3⟩, ⟨c3, c4, c5⟩, ⟨m4, m5, m6⟩, hw, -⟩ := hK
    obtain ⟨y1, y2, y3, y4⟩ := hw q1.1
    have hK := h0.2.1
    have preC : f_X8_passNewName 1 (nI s) (nI k) σc = zbr (oN (fi (fun i => sT tp a e (N.2 i)) N.1) = (-1 : Int32)) (zbd (f_X4_add 4 2 (nI s) (nI k) σc) (fun r10 σ11 => zck (WC.2 (σ11.2 1 0) = (9, 0)) (zbd (f_X9_next (σ11.2 1 0) σ11) (fun r13 σ14 => zck (zb (1 : Int32)) (some ((1 : Int32), σ14)))))) (zbd (f_X8_blame 1 (3 : Int32) σc) (fun r15 σ16 => zck (zb r15) (some (r15, σ16)))) := by
      unfold f_X8_passNewName
      rw [zck_t k1, r10, zck_t k2, c5, zbr_t (show nI kd = (1 : Int32) by rw [q1.1]; rfl), C_lineWord hT hK r0 r10, zbd_s, q1.2, zbr_t (by rfl), r11, zck_t k4, r10, ci, zbd_s, r11, zck_t k4, r10]
    have preM : f_X11_newName 0 (nI (ixN (a, e - a, s, k))) σm = zbr (fdN tp a e N < 0) (f_X11_newName_35 0 (nI (ixN (a, e - a, s, k))) σm) (zbd (f_X11_wrong 0 (3 : Int32) (σm.1 0 4) σm) (fun r11 σ12 => f_X11_newName_35 0 (nI (ixN (a, e - a, s, k))) σ12)) := by
      unfold f_X11_newName
      rw [zck_t w0, zbr_t h13, mn, zbd_s, zbr_t h13, mf, zbd_s]
    cases ef : fi (fun i => sT tp a e (N.2 i)) N.1 with
    | some i =>
      obtain ⟨hi, hsT, -⟩ := fi_iff.mp ef
      have hix := ixN_b hb (hV.2.1 i hi).2
      refine Or.inr ⟨3, by omega, by omega, ?_, ?_⟩
      · rw [preC, ef]
        show zbr (nI i = (-1 : Int32)) _ _ = _
        rw [zbr_f (nI_m1 (by omega)), C_blame hK r10, zbd_s]; rfl
      · have fd : fdN tp a e N = nI (ixN (N.2 i)) := by unfold fdN; rw [ef]
        rw [preM, fd, zbr_f (show ¬ nI (ixN (N.2 i)) < (0 : Int32) from (nI_nlt (by omega) (by omega) : ¬ nI (ixN (N.2 i)) < nI 0)), m4, M_wrong h13, zbd_s]
        exact m35 _ (nI 3)
    | none =>
      have hno : ∀ i, i < N.1 → sT tp a e (N.2 i) = false := fun i hi => fi_none.mp ef i hi
      have hnm : nmN tp n N a e := ⟨y1, y2, x2, fun l hl => (y4 l hl).2, hno⟩
      obtain ⟨m, hm⟩ : ∃ m, ixN (a, e - a, s, k) = m := ⟨_, rfl⟩
      have hm' : m < 14 ∧ (s = 2 → m = k) ∧ (s = 4 → m = 6 + k) ∧ (s = 5 → m = 10 + k) := by
        rw [← hm]
        unfold ixN
        rcases hs with ⟨rfl, hk⟩ | ⟨rfl, hk⟩ | ⟨rfl, hk⟩
        · simp; omega
        · simp; omega
        · simp; omega
      have hne : ∀ i, i < N.1 → ixN (N.2 i) ≠ m := by
        intro i hi
        have hv := (hV.2.1 i hi).2
        unfold ixN
        rcases hv with z | z | z
        · rw [z.1, if_pos rfl]; omega
        · rw [z.1, if_neg (by omega), if_pos rfl]; omega
        · rw [z.1, if_neg (by omega), if_neg (by omega)]; omega
      obtain ⟨υ, u1, u2, u3, u4⟩ := M_keepName hK hD.2.1 q1.1 hT.1 hm'.1
      have ac : f_X4_add 4 2 (nI s) (nI k) σc = some ((), zpi (zpi (zpi (zpi (zpi σc 5 N.1 (nI a)) 6 N.1 (nI (e - a))) 7 N.1 (nI s)) 8 N.1 (nI k)) 4 4 (nI (N.1 + 1))) := by
        unfold f_X4_add
        rw [zck_t k4, hNC.1, zbr_t (show nI N.1 < (14 : Int32) from nI_lt (b := 14) hN13 (by decide)), zck_t k2, r40, k5, zck_t (zok_p hN13 (by decide)), zlt_e, nI_clamp (by omega), c3]
        rw [zpi_2, r41, k6, zpi_ne _ _ (show ¬ (4 = 5 ∧ 4 = N.1) by omega), hNC.1, zck_t (zok_p hN13 (by decide)), zlt_e, nI_clamp (by omega), zpi_ne _ _ (show ¬ (2 = 5 ∧ 4 = N.1) by omega), zpi_ne _ _ (show ¬ (2 = 5 ∧ 3 = N.1) by omega), c3, c4, nI_sub x1]
        rw [zpi_2, zpi_2, r42, k7, zpi_ne _ _ (show ¬ (4 = 6 ∧ 4 = N.1) by omega), zpi_ne _ _ (show ¬ (4 = 5 ∧ 4 = N.1) by omega), hNC.1, zck_t (zok_p hN13 (by decide)), zlt_e, nI_clamp (by omega)]
        rw [zpi_2, zpi_2, zpi_2, r43, k8, zpi_ne _ _ (show ¬ (4 = 7 ∧ 4 = N.1) by omega), zpi_ne _ _ (show ¬ (4 = 6 ∧ 4 = N.1) by omega), zpi_ne _ _ (show ¬ (4 = 5 ∧ 4 = N.1) by omega), hNC.1, zck_t (zok_p hN13 (by decide)), zlt_e, nI_clamp (by omega)]
        rw [zpi_ne _ _ (show ¬ (4 = 8 ∧ 4 = N.1) by omega), zpi_ne _ _ (show ¬ (4 = 7 ∧ 4 = N.1) by omega), zpi_ne _ _ (show ¬ (4 = 6 ∧ 4 = N.1) by omega), zpi_ne _ _ (show ¬ (4 = 5 ∧ 4 = N.1) by omega), hNC.1, zlt_e, nI_1]
      obtain ⟨ω, hω⟩ : ∃ ω, zpi (zpi (zpi (zpi (zpi σc 5 N.1 (nI a)) 6 N.1 (nI (e - a))) 7 N.1 (nI s)) 8 N.1 (nI k)) 4 4 (nI (N.1 + 1)) = ω := ⟨_, rfl⟩
      have fω : fr (fun x _ => 4 ≤ x ∧ x ≤ 8) σc ω := by
        rw [← hω]
        exact (((((fr_r _ σc).pi _ (by omega)).pi _ (by omega)).pi _ (by omega)).pi _ (by omega)).pi _ (by omega)
      have hNC' : NC (adN N (a, e - a, s, k)) ω := by
        rw [← hω]
        refine ⟨zpi_eq _ _ _ _, fun i hi => ?_⟩
        have hi : i < N.1 + 1 := hi
        by_cases z : i = N.1
        · rw [z, adN_n]
          refine ⟨?_, ?_, ?_, ?_⟩
          · rw [zpi_ne _ _ (by omega), zpi_ne _ _ (by omega), zpi_ne _ _ (by omega), zpi_ne _ _ (by omega), zpi_eq]
          · rw [zpi_ne _ _ (by omega), zpi_ne _ _ (by omega), zpi_ne _ _ (by omega), zpi_eq]
          · rw [zpi_ne _ _ (by omega), zpi_ne _ _ (by omega), zpi_eq]
          · rw [zpi_ne _ _ (by omega), zpi_eq]
        · have hi : i < N.1 := by omega
          rw [adN_o hi]
          have := hNC.2 i hi
          refine ⟨?_, ?_, ?_, ?_⟩
          · rw [zpi_ne _ _ (by omega), zpi_ne _ _ (by omega), zpi_ne _ _ (by omega), zpi_ne _ _ (by omega), zpi_ne _ _ (by omega)]; exact this.1
          · rw [zpi_ne _ _ (by omega), zpi_ne _ _ (by omega), zpi_ne _ _ (by omega), zpi_ne _ _ (by omega), zpi_ne _ _ (by omega)]; exact this.2.1
          · rw [zpi_ne _ _ (by omega), zpi_ne _ _ (by omega), zpi_ne _ _ (by omega), zpi_ne _ _ (by omega), zpi_ne _ _ (by omega)]; exact this.2.2.1
          · rw [zpi_ne _ _ (by omega), zpi_ne _ _ (by omega), zpi_ne _ _ (by omega), zpi_ne _ _ (by omega), zpi_ne _ _ (by omega)]; exact this.2.2.2
      have hNM' : NM tp (adN N (a, e - a, s, k)) υ := by
        refine ⟨fun i hi => ?_, fun l hl hall => ?_⟩
        · have hi : i < N.1 + 1 := hi
          by_cases z : i = N.1
          · rw [z, adN_n, hm]
            exact ⟨u2, u3⟩
          · have hi : i < N.1 := by omega
            rw [adN_o hi]
            have hx := hne i hi
            have hl8 := (hV.2.1 i hi).1.2.1
            have hix := ixN_b hb (hV.2.1 i hi).2
            refine ⟨(u1.2 4 _ (by omega)).trans (hNM.1 i hi).1, fun l hl => (u1.2 4 _ (by omega)).trans ((hNM.1 i hi).2 l hl)⟩
        · have z : l ≠ m := by
            have := hall N.1 (Nat.lt_succ_self _)
            rw [adN_n, hm] at this
            exact this.symm
          refine (u1.2 4 _ (by omega)).trans (hNM.2 l hl (fun i hi => ?_))
          have := hall i (Nat.lt_succ_of_lt hi)
          rw [adN_o hi] at this
          exact this
      have hv := Ld_v b
      have fc : fr (PCd b) σc ω := fω.mo (fun x l z => by unfold PCd; omega)
      have fm : fr PMd σm υ := u1.mo (fun x l z => by unfold PMd; omega)
      have S' : SS b tp n F R (adN N (a, e - a, s, k)) a e kd ω υ := by
        obtain ⟨d1, d2, d3, d4, d5, d6, d7, d8, d9⟩ := hD
        refine ⟨hT.d (b := b) fc fm, hK.f (fun l => fω.2 2 l (by omega)) (fun l _ _ => u1.2 0 l (by omega)) (fun l => u1.2 2 l (by omega)), fω.1.trans d1, u1.1.trans d2, d3.f (fun x l z1 z2 => fω.2 x l (by omega)), d4.f (fun x l z1 z2 => fω.2 x l (by omega)), fun l hl => (u1.2 4 l (by omega)).trans (d5 l hl), fun l hl => (u1.2 6 l (by omega)).trans (d6 l hl), (u1.2 0 13 (by omega)).trans d7, hNC', hNM'⟩
      obtain ⟨a', e', kd', τc, τm, g1, g2, g3⟩ := NX S'
      refine Or.inl ⟨a', e', kd', τc, τm, hnm, ?_, ?_, g3.1, fc.tr g3.c, fm.tr g3.m, g3.2.2.2⟩
      · rw [preC, ef, zbr_t (by rfl), ac, zbd_s, hω, fω.1, r10, zck_t k2, g1, zbd_s]; rfl
      · rw [preM, show fdN tp a e N = (-1 : Int32) by unfold fdN; rw [ef], zbr_t (by decide)]
        unfold f_X11_newName_35
        rw [zbr_t h13, zlt_e, hm, u4, g2, zbd_s]
  · refine Or.inr ⟨1, by omega, by omega, ?_, ?_⟩
    · unfold f_X8_passNewName
      rw [zck_t k1, r10, zck_t k2, hK.2.1.2.2]
      by_cases q2 : kd = 1
      · rw [zbr_t (show nI kd = (1 : Int32) by rw [q2]; rfl), C_lineWord hT hK r0 r10, zbd_s, zbr_f (nI_ne0 (by omega) (by omega)), bad18]
      · rw [zbr_f (show ¬ nI kd = (1 : Int32) from fun z => q2 ((nI_eq (b := 1) (by have := hK.1.2.2; omega) (by decide)).mp z)), bad18]
    · rw [if_neg q1] at mn
      unfold f_X11_newName
      rw [zck_t w0, zbr_t h13, mn, zbd_s, wr_13, zbr_f (by decide)]
      exact m35 _ (nI 1)
/-- a word, and a number that is passed -/
theorem P_after (h : SS b tp n F R N a e kd σc σm) {j lo hi : Nat} (hj : j < 18) (hl : lo < 2 ^ 31) (hh : hi < 2 ^ 31) :
    (∃ v a' e' kd' υ τc τm, lo ≤ v ∧ v ≤ hi ∧ (∀ K : zS → Option (Int32 × zS), zbd (f_X8_passWord 1 (1000 + j) σc) (fun r s => zbr (r = 0) (zck (zb (0 : Int32)) (some ((0 : Int32), s))) (zbd (f_X8_isWhole 1 (nI lo) (nI hi) s) (fun r2 s2 => zbr (r2 = 0) (zck (zb (0 : Int32)) (some ((0 : Int32), s2))) (K s2)))) = K υ) ∧ f_X8_passNumber 1 υ = some (nI v, τc) ∧ υ.2 = σc.2 ∧ f_X11_after 0 (1000 + j) (nI lo) (nI hi) σm = some (nI v, τm) ∧ Adv b tp n F R N e σc σm a' e' kd' τc τm) ∨ (∃ f y τc τm, 1 ≤ f ∧ f ≤ 7 ∧ (∀ K : zS → Option (Int32 × zS), zbd (f_X8_passWord 1 (1000 + j) σc) (fun r s => zbr (r = 0) (zck (zb (0 : Int32)) (some ((0 : Int32), s))) (zbd (f_X8_isWhole 1 (nI lo) (nI hi) s) (fun r2 s2 => zbr (r2 = 0) (zck (zb (0 : Int32)) (some ((0 : Int32), s2))) (K s2)))) = some (0, τc)) ∧ f_X11_after 0 (1000 + j) (nI lo) (nI hi) σm = some (nI lo, τm) ∧ BC b σc τc (nI f) y ∧ BM σm τm (nI f) y) := by
  rcases P_word h hj with ⟨-, a1, e1, kd1, c1, m1, p1, p2, p3⟩ | ⟨p1, p2⟩
  · rcases P_whole p3.1 hl hh with ⟨v, -, v1, v2, v3, w1, w2, w3⟩ | ⟨f, f1, f2, w1, w2⟩
    · obtain ⟨a2, e2, kd2, c2, m2, n1, n2, n3⟩ := P_num p3.1 w2
      have hD1 := p3.1.2.1.1
      refine Or.inl ⟨v, a2, e2, kd2, c1, c2, m2, v1, v2, fun K => ?_, n1, p3.2.1.1, ?_, n3.1, p3.2.1.tr n3.2.1, p3.2.2.1.tr n3.2.2.1, by have := n3.2.2.2; have := p3.2.2.2; omega⟩
      · rw [p1, zbd_s, zbr_f (by decide), w1, zbd_s, zbr_f (by decide)]
      · unfold f_X11_after f_X11_number
        rw [zck_t w0, p2, zbd_s, zck_t w0, w3, zbd_s, zlt_e, n2, zbd_s, zbd_s]
    · refine Or.inr ⟨f, nI a1, bl c1 (nI f) (nI a1), wr m1 (nI f) (nI a1), f1, f2, fun K => ?_, ?_, BC_w p3.c _ _, BM_w p3.m _ _⟩
      · rw [p1, zbd_s, zbr_f (by decide), w1, zbd_s, zbr_t (by rfl)]; rfl
      · unfold f_X11_after f_X11_number
        rw [zck_t w0, p2, zbd_s, zck_t w0, w2, zbd_s, zlt_e, Mf_pass (wr_13 _ _ _), zbd_s, zbd_s]
  · refine Or.inr ⟨1, nI a, bl σc (nI 1) (nI a), wr σm (nI 1) (nI a), by omega, by omega, fun K => ?_, ?_, BC_w (fr_r _ _) _ _, BM_w (fr_r _ _) _ _⟩
    · rw [p1, zbd_s, zbr_t (by rfl)]; rfl
    · unfold f_X11_after
      rw [zck_t w0, p2, zbd_s, Mf_number (wr_13 _ _ _), zbd_s]
end NN
