/-! the reader's pieces, on both sides at once -/
def PCd (b : Bool) (a k : Nat) : Prop := (a = 2 ∧ 3 ≤ k ∧ k ≤ 6) ∨ (4 ≤ a ∧ a ≤ 8) ∨ (Ld b ≤ a ∧ a ≤ Ld b + 18)
def PMd (a k : Nat) : Prop := a = 2 ∨ a = 4 ∨ a = 6 ∨ (a = 0 ∧ 4 ≤ k ∧ k ≤ 8)
def PMe (a k : Nat) : Prop := PMd a k ∨ (a = 0 ∧ (k = 9 ∨ k = 10 ∨ k = 13))
theorem fr.trm {σ τ υ : zS} (h : fr PMd σ τ) (g : fr PMe τ υ) : fr PMe σ υ := (h.mo (fun _ _ z => Or.inl z)).tr g
theorem PtC_d (b : Bool) (a k : Nat) (h : PtC a k) : PCd b a k := Or.inl h
def PCe (b : Bool) (a k : Nat) : Prop := PCd b a k ∨ (a = 1 ∧ (k = 3 ∨ k = 4))
theorem fr.tre {b : Bool} {σ τ υ : zS} (h : fr (PCd b) σ τ) (g : fr (PCe b) τ υ) : fr (PCe b) σ υ := (h.mo (fun _ _ z => Or.inl z)).tr g
theorem PtM_d (a k : Nat) (h : PtM a k) : PMd a k := by unfold PtM at h; unfold PMd; omega
def DT (b : Bool) (tp F R : Nat → Nat) (N : nT) (σc σm : zS) : Prop := σc.2 = RC b ∧ σm.2 = RM ∧ gA (Ld b) F σc.1 ∧ pI (Ld b + 8) R σc.1 ∧ (∀ k, k < 69 → σm.1 4 k = nI (F k)) ∧ (∀ k, k < 50 → σm.1 6 k = nI (R k)) ∧ σm.1 0 13 = 0 ∧ NC N σc ∧ NM tp N σm
def SS (b : Bool) (tp : Nat → Nat) (n : Nat) (F R : Nat → Nat) (N : nT) (a e kd : Nat) (σc σm : zS) : Prop := TP tp n σc σm ∧ TK tp n a e kd σc σm ∧ DT b tp F R N σc σm
section PR
variable {b : Bool} {tp F R : Nat → Nat} {n a e kd : Nat} {N : nT} {σc σm : zS}
theorem TP.d {τc τm : zS} (h : TP tp n σc σm) (fc : fr (PCd b) σc τc) (fm : fr PMd σm τm) : TP tp n τc τm := by
  have hv := Ld_v b
  exact ⟨h.1, (fc.2 2 2 (by unfold PCd; omega)).trans h.2.1, (fm.2 0 3 (by unfold PMd; omega)).trans h.2.2.1, fun k hk => ⟨(h.2.2.2 k hk).1, (fc.2 3 k (by unfold PCd; omega)).trans (h.2.2.2 k hk).2.1, (fm.2 1 k (by unfold PMd; omega)).trans (h.2.2.2 k hk).2.2⟩⟩
theorem NC.f {τ : zS} (h : NC N σc) (e : ∀ a k, 4 ≤ a → a ≤ 8 → τ.1 a k = σc.1 a k) : NC N τ :=
  ⟨(e 4 4 (by omega) (by omega)).trans h.1, fun i hi => ⟨(e 5 i (by omega) (by omega)).trans (h.2 i hi).1, (e 6 i (by omega) (by omega)).trans (h.2 i hi).2.1, (e 7 i (by omega) (by omega)).trans (h.2 i hi).2.2.1, (e 8 i (by omega) (by omega)).trans (h.2 i hi).2.2.2⟩⟩
theorem NM.f {τ : zS} (h : NM tp N σm) (e : ∀ k, 69 ≤ k → τ.1 4 k = σm.1 4 k) : NM tp N τ :=
  ⟨fun i hi => ⟨(e _ (by omega)).trans (h.1 i hi).1, fun k hk => (e _ (by omega)).trans ((h.1 i hi).2 k hk)⟩, fun m hm z => (e _ (by omega)).trans (h.2 m hm z)⟩
theorem DT.t {τc τm : zS} (h : DT b tp F R N σc σm) (fc : fr PtC σc τc) (fm : fr PtM σm τm) : DT b tp F R N τc τm := by
  have hv := Ld_v b
  obtain ⟨h1, h2, h3, h4, h5, h6, h7, h8, h9⟩ := h
  exact ⟨fc.1.trans h1, fm.1.trans h2, h3.f (fun a k _ _ => fc.2 a k (by unfold PtC; omega)), h4.f (fun a k _ _ => fc.2 a k (by unfold PtC; omega)), fun k hk => (fm.2 4 k (by unfold PtM; omega)).trans (h5 k hk), fun k hk => (fm.2 6 k (by unfold PtM; omega)).trans (h6 k hk), (fm.2 0 13 (by unfold PtM; omega)).trans h7, h8.f (fun a k _ _ => fc.2 a k (by unfold PtC; omega)), h9.f (fun k _ => fm.2 4 k (by unfold PtM; omega))⟩
theorem DT.rs (h : DT b tp F R N σc σm) : σc.2 2 0 = 3 ∧ σc.2 1 0 = 2 ∧ σc.2 1 1 = 4 ∧ σc.2 1 2 = Ld b ∧ σc.2 4 0 = 5 ∧ σc.2 4 1 = 6 ∧ σc.2 4 2 = 7 ∧ σc.2 4 3 = 8 := by
  rw [h.1]; simp only [RCs]
  refine ⟨trivial, trivial, trivial, ?_, trivial, trivial, trivial, trivial⟩
  cases b <;> rfl
theorem lK_d (b : Bool) : lK (Ld b) (RC b) := by
  cases b
  · exact lK_9 false
  · exact lK_69 true
theorem DT.k (h : DT b tp F R N σc σm) : lK (Ld b) σc.2 := by rw [h.1]; exact lK_d b
/-- both go on by a token -/
def Adv (b : Bool) (tp : Nat → Nat) (n : Nat) (F R : Nat → Nat) (N : nT) (e : Nat) (σc σm : zS) (a' e' kd' : Nat) (τc τm : zS) : Prop := SS b tp n F R N a' e' kd' τc τm ∧ fr PtC σc τc ∧ fr PtM σm τm ∧ e ≤ a'
theorem NX (h : SS b tp n F R N a e kd σc σm) : ∃ a' e' kd' τc τm, f_X9_next 2 σc = some ((), τc) ∧ f_X11_next 0 σm = some ((), τm) ∧ Adv b tp n F R N e σc σm a' e' kd' τc τm := by
  obtain ⟨hT, hK, hD⟩ := h
  obtain ⟨a', e', kd', τc, τm, g1, g2, g3, g4, g5, g6⟩ := N_next hT hD.rs.1 hD.2.1 hK.1.2.1 hK.2.1.2.1 hK.2.2.1.2.1
  exact ⟨a', e', kd', τc, τm, g1, g2, ⟨hT.d (b := b) (g3.mo (PtC_d b)) (g4.mo PtM_d), g6, hD.t g3 g4⟩, g3, g4, g5⟩
theorem NXp (h : SS b tp n F R N a e kd σc σm) : ∃ a' e' kd' τc τm, f_X9_next 2 σc = some ((), τc) ∧ f_X11_next 0 σm = some ((), τm) ∧ f_X11_pass 0 σm = some ((), τm) ∧ Adv b tp n F R N e σc σm a' e' kd' τc τm := by
  obtain ⟨a', e', kd', τc, τm, g1, g2, g3⟩ := NX h
  refine ⟨a', e', kd', τc, τm, g1, g2, ?_, g3⟩
  unfold f_X11_pass
  rw [zck_t w0, zbr_t h.2.2.2.2.2.2.2.2.1, g2, zbd_s]
theorem P_word (h : SS b tp n F R N a e kd σc σm) {j : Nat} (hj : j < 18) :
    (wI tp a e kd j = true ∧ ∃ a' e' kd' τc τm, f_X8_passWord 1 (1000 + j) σc = some (1, τc) ∧ f_X11_must 0 (1000 + j) σm = some ((), τm) ∧ Adv b tp n F R N e σc σm a' e' kd' τc τm) ∨ (f_X8_passWord 1 (1000 + j) σc = some (0, bl σc (nI 1) (nI a)) ∧ f_X11_must 0 (1000 + j) σm = some ((), wr σm (nI 1) (nI a))) := by
  obtain ⟨a', e', kd', τc, τm, g1, g2, g3⟩ := NX h
  obtain ⟨hT, hK, hD⟩ := h
  have h13 := hD.2.2.2.2.2.2.1
  obtain ⟨r0, r10, -⟩ := hD.rs
  have wc := C_isWord hT hK r0 hj
  have wm := M_isWord hK hD.2.1 h13 hT.1 hj
  unfold f_X8_passWord f_X11_must f_X11_takesWord
  rw [zck_t k1, r10, zck_t k2, wc, zbd_s, zck_t w0, zbr_t h13, zck_t w0, wm, zbd_s]
  cases e1 : wI tp a e kd j
  · refine Or.inr ⟨?_, ?_⟩
    · rw [zbr_t (by rfl), C_blame hK r10, zbd_s]; rfl
    · rw [zbr_t (by rfl)]
      show zbd (some ((0 : Int32), σm)) _ = _
      rw [zbd_s, zbr_t (by rfl), hK.2.2.1.1, M_wrong h13, zbd_s]; rfl
  · refine Or.inl ⟨rfl, a', e', kd', τc, τm, ?_, ?_, g3⟩
    · rw [zbr_f (by decide), r10, zck_t k2, g1, zbd_s]; rfl
    · rw [zbr_f (by decide), g2, zbd_s]
      show zbd (some ((1 : Int32), τm)) _ = _
      rw [zbd_s, zbr_f (by decide)]
theorem P_whole (h : SS b tp n F R N a e kd σc σm) {lo hi : Nat} (hl : lo < 2 ^ 31) (hh : hi < 2 ^ 31) :
    (∃ v, kd = 2 ∧ lo ≤ v ∧ v ≤ hi ∧ v < 1000 ∧ f_X8_isWhole 1 (nI lo) (nI hi) σc = some (1, σc) ∧ σc.1 2 6 = nI v ∧ f_X11_numberHere 0 (nI lo) (nI hi) σm = some (nI v, σm)) ∨ (∃ f, 1 ≤ f ∧ f ≤ 7 ∧ f_X8_isWhole 1 (nI lo) (nI hi) σc = some (0, bl σc (nI f) (nI a)) ∧ f_X11_numberHere 0 (nI lo) (nI hi) σm = some (nI lo, wr σm (nI f) (nI a))) := by
  obtain ⟨hT, hK, hD⟩ := h
  have h13 := hD.2.2.2.2.2.2.1
  obtain ⟨r0, r10, -⟩ := hD.rs
  have hK0 := hK
  obtain ⟨⟨x1, x2, x3⟩, ⟨c3, c4, c5⟩, ⟨m4, m5, m6⟩, -, hv, -⟩ := hK
  have w50 : ∀ f, f_X11_numberHere_50 0 (nI lo) (wr σm f (nI a)) = some (nI lo, wr σm f (nI a)) := fun f => by
    unfold f_X11_numberHere_50
    rw [wr_13, zbr_f (by decide)]
  unfold f_X8_isWhole f_X11_numberHere
  rw [zck_t k1, r10, zck_t k2, c5, zck_t w0, zbr_t h13, m6]
  by_cases q1 : kd = 2
  · obtain ⟨v, v1, v2, v3⟩ := hv q1
    have i1 : f_X11_in (nI v) (nI lo) (nI hi) σm = some (bI (decide (lo ≤ v ∧ v ≤ hi)), σm) := by
      unfold f_X11_in
      by_cases z1 : v < lo
      · rw [zbr_t (nI_lt z1 hl), decide_eq_false (by omega)]; rfl
      · rw [zbr_f (nI_nlt (by omega) (by omega))]
        by_cases z2 : hi < v
        · rw [zbr_t (nI_lt z2 (by omega)), decide_eq_false (by omega)]; rfl
        · rw [zbr_f (nI_nlt (by omega) hh), decide_eq_true (by omega)]; rfl
    have c39 : f_X8_isWhole_39 1 σc = some (0, bl σc (nI 4) (nI a)) := by
      unfold f_X8_isWhole_39
      rw [C_blame hK0 r10, zbd_s, zbr_t (by rfl)]; rfl
    rw [zbr_t (show nI kd = (2 : Int32) by rw [q1]; rfl), v2, zbr_t ((tkM_3 x3).mpr q1), v3, i1, zbd_s, m4]
    by_cases z : lo ≤ v ∧ v ≤ hi
    · refine Or.inl ⟨v, q1, z.1, z.2, v1, ?_, rfl, ?_⟩
      · rw [zbr_f (nI_nlt z.1 (by omega)), zbr_t (nI_le z.2 hh)]; rfl
      · rw [decide_eq_true z, zbr_f (by decide)]
        unfold f_X11_numberHere_50
        rw [zbr_t h13, v3]
    · refine Or.inr ⟨4, by omega, by omega, ?_, ?_⟩
      · by_cases z1 : v < lo
        · rw [zbr_t (nI_lt z1 hl), c39]
        · rw [zbr_f (nI_nlt (by omega) (by omega)), zbr_f (nI_ge (by omega) (by omega)), c39]
      · rw [decide_eq_false z, zbr_t (by rfl), M_wrong h13, zbd_s]
        exact w50 (nI 4)
  · refine Or.inr ⟨1, by omega, by omega, ?_, ?_⟩
    · rw [zbr_f (show ¬ nI kd = (2 : Int32) from fun z => q1 ((nI_eq (b := 2) (by omega) (by decide)).mp z)), C_blame hK0 r10, zbd_s]; rfl
    · rw [zbr_f (fun z => q1 ((tkM_3 x3).mp z)), m4, M_wrong h13, zbd_s]
      exact w50 (nI 1)
theorem P_num (h : SS b tp n F R N a e kd σc σm) {v : Nat} (hv : σc.1 2 6 = nI v) : ∃ a' e' kd' τc τm, f_X8_passNumber 1 σc = some (nI v, τc) ∧ f_X11_pass 0 σm = some ((), τm) ∧ Adv b tp n F R N e σc σm a' e' kd' τc τm := by
  obtain ⟨a', e', kd', τc, τm, g1, g2, g4, g3⟩ := NXp h
  refine ⟨a', e', kd', τc, τm, ?_, g4, g3⟩
  unfold f_X8_passNumber
  rw [zck_t k1, h.2.2.rs.2.1, zck_t k2, hv, zlt_e, g1, zbd_s]
theorem P_say (h : SS b tp n F R N a e kd σc σm) :
    (∃ s a' e' kd' τc τm, s ≤ 1 ∧ f_X8_sayAtHand 1 σc = some (nI s, σc) ∧ f_X9_next 2 σc = some ((), τc) ∧ f_X11_say 0 σm = some (nI s, τm) ∧ Adv b tp n F R N e σc σm a' e' kd' τc τm) ∨ (f_X8_sayAtHand 1 σc = some (-1, σc) ∧ f_X11_say 0 σm = some (0, wr σm (nI 1) (nI a))) := by
  obtain ⟨a', e', kd', τc, τm, g1, g2, g3⟩ := NX h
  obtain ⟨hT, hK, hD⟩ := h
  have h13 := hD.2.2.2.2.2.2.1
  obtain ⟨r0, r10, -⟩ := hD.rs
  have wc := fun j hj => C_isWord hT hK r0 (j := j) hj
  have wm := fun j hj => M_isWord hK hD.2.1 h13 hT.1 (j := j) hj
  unfold f_X8_sayAtHand f_X11_say f_X11_must f_X11_takesWord
  rw [zck_t k1, r10, zck_t k2, wc 13 (by decide), zbd_s, zck_t w0, zck_t w0, wm 13 (by decide), zbd_s]
  cases e1 : wI tp a e kd 13
  · have em : zbr (bI false = 0) (zck (zb (0 : Int32)) (some ((0 : Int32), σm))) (zbd (f_X11_next 0 σm) (fun r3 σ4 => zck (zb (1 : Int32)) (some ((1 : Int32), σ4)))) = some (0, σm) := rfl
    rw [zbr_t (c := bI false = 0) rfl, r10, zck_t k2, wc 14 (by decide), zbd_s, em, zbd_s, zbr_t (c := (0 : Int32) = 0) rfl, zck_t w0, zbr_t h13, zck_t w0, wm 14 (by decide), zbd_s]
    cases e2 : wI tp a e kd 14
    · refine Or.inr ⟨rfl, ?_⟩
      rw [em, zbd_s, zbr_t (c := (0 : Int32) = 0) rfl, hK.2.2.1.1, M_wrong h13, zbd_s, zbd_s]
      rfl
    · refine Or.inl ⟨0, a', e', kd', τc, τm, by omega, rfl, g1, ?_, g3⟩
      rw [zbr_f (c := bI true = 0) (by decide), g2, zbd_s, zck_t (c := zb (1 : Int32)) (by decide), zbd_s, zbr_f (c := (1 : Int32) = 0) (by decide), zbd_s]
      rfl
  · refine Or.inl ⟨1, a', e', kd', τc, τm, by omega, rfl, g1, ?_, g3⟩
    rw [zbr_f (c := bI true = 0) (by decide), g2, zbd_s, zck_t (c := zb (1 : Int32)) (by decide), zbd_s, zbr_f (c := (1 : Int32) = 0) (by decide)]
    rfl
def kbN (F : Nat → Nat) (s : Nat) : Nat := if s = 2 then F 1 else if s = 4 then F 3 else F 4
def loN (s : Nat) : Nat := if s = 2 then 0 else if s = 4 then 6 else 10
def hiN (s : Nat) : Nat := if s = 2 then 5 else if s = 4 then 9 else 13
theorem P_name (h : SS b tp n F R N a e kd σc σm) (hV : VN tp n F N) (hb : F 1 ≤ 6 ∧ F 3 ≤ 4 ∧ F 4 ≤ 4) {s : Nat} (hs : s = 2 ∨ s = 4 ∨ s = 5) :
    (∃ k a' e' kd' τc τm, k < kbN F s ∧ f_X8_passName 1 (nI s) σc = some (nI k, τc) ∧ f_X11_named 0 (nI (loN s)) (nI (hiN s)) σm = some (nI k, σm) ∧ f_X11_pass 0 σm = some ((), τm) ∧ Adv b tp n F R N e σc σm a' e' kd' τc τm) ∨ (∃ f, 1 ≤ f ∧ f ≤ 7 ∧ f_X8_passName 1 (nI s) σc = some (-1, bl σc (nI f) (nI a)) ∧ f_X11_named 0 (nI (loN s)) (nI (hiN s)) σm = some (0, wr σm (nI f) (nI a))) := by
  obtain ⟨a', e', kd', τc, τm, g1, g2, g4, g3⟩ := NXp h
  obtain ⟨hT, hK, hD⟩ := h
  have h13 := hD.2.2.2.2.2.2.1
  obtain ⟨r0, r10, r11, -, r40, r41, r42, r43⟩ := hD.rs
  have hNC := hD.2.2.2.2.2.2.2.1
  have hN14 : N.1 ≤ 14 := by have := hV.1; omega
  have bad18 : f_X8_passName_18 1 σc = some (-1, bl σc (nI 1) (nI a)) := by
    unfold f_X8_passName_18
    rw [C_blame hK r10, zbd_s]; rfl
  have bad56 : f_X8_passName_56 1 σc = some (-1, bl σc (nI 2) (nI a)) := by
    unfold f_X8_passName_56
    rw [C_blame hK r10, zbd_s]; rfl
  have lw9 : lwN tp a e kd < 10 := by
    unfold lwN
    repeat' (first | omega | split)
  by_cases q1 : kd = 1 ∧ lwN tp a e kd = 0
  · have ci := C_indexOf hT hK r0 q1.1 r40 r41 hNC hV hb
    have mf := M_find hK hD.2.1 q1.1 hT.1 hD.2.2.2.2.2.2.2.2 hV hb
    have mn := M_mustName hK hD.2.1 h13 hT.1
    rw [if_pos q1] at mn
    have preC : f_X8_passName 1 (nI s) σc = zbr (oN (fi (fun i => sT tp a e (N.2 i)) N.1) = (-1 : Int32)) (f_X8_passName_56 1 σc) (zck (zok 100 (100, 14) (oN (fi (fun i => sT tp a e (N.2 i)) N.1))) (zbr ((σc.1 7 (oN (fi (fun i => sT tp a e (N.2 i)) N.1)).toNatClampNeg) = nI s) (zck (WC.2 2 = (9, 0)) (zbd (f_X9_next 2 σc) (fun r14 σ15 => zck (WC.2 (σ15.2 1 1) = (4, 0)) (zck (zok 100 (WC.2 (σ15.2 (σ15.2 1 1) 3)) (oN (fi (fun i => sT tp a e (N.2 i)) N.1))) (some ((σ15.1 (σ15.2 (σ15.2 1 1) 3) (oN (fi (fun i => sT tp a e (N.2 i)) N.1)).toNatClampNeg), σ15)))))) (f_X8_passName_56 1 σc))) := by
      unfold f_X8_passName
      rw [zck_t k1, r10, zck_t k2, hK.2.1.2.2, zbr_t (show nI kd = (1 : Int32) by rw [q1.1]; rfl), C_lineWord hT hK r0 r10, zbd_s, q1.2, zbr_t (by rfl), r11, zck_t k4, r10, ci, zbd_s, zlt_e, r11, zck_t k4, r42, k7, r10]
    have preM : f_X11_named 0 (nI (loN s)) (nI (hiN s)) σm = zbd (f_X11_in (fdN tp a e N) (nI (loN s)) (nI (hiN s)) σm) (fun r6 σ7 => zbr (r6 = 0) (zbd (f_X11_wrong 0 (2 : Int32) (σ7.1 0 4) σ7) (fun r8 σ9 => f_X11_named_45 0 (nI (loN s)) (fdN tp a e N) σ9)) (f_X11_named_45 0 (nI (loN s)) (fdN tp a e N) σ7)) := by
      unfold f_X11_named
      rw [zck_t w0, zbr_t h13, mn, zbd_s, zbr_t h13, mf, zbd_s, zlt_e]
    have badM : f_X11_in (fdN tp a e N) (nI (loN s)) (nI (hiN s)) σm = some (0, σm) → f_X11_named 0 (nI (loN s)) (nI (hiN s)) σm = some (0, wr σm (nI 2) (nI a)) := by
      intro z
      rw [preM, z, zbd_s, zbr_t (c := (0 : Int32) = 0) rfl, hK.2.2.1.1, M_wrong h13, zbd_s]
      unfold f_X11_named_45
      rw [wr_13, zbr_f (by decide)]; rfl
    have hlo : loN s ≤ 13 ∧ hiN s ≤ 13 := by unfold loN hiN; rcases hs with rfl | rfl | rfl <;> decide
    cases ef : fi (fun i => sT tp a e (N.2 i)) N.1 with
    | none =>
      refine Or.inr ⟨2, by omega, by omega, ?_, badM ?_⟩
      · rw [preC, ef, zbr_t (by rfl), bad56]
      · unfold fdN f_X11_in
        rw [ef, zbr_t (show (-1 : Int32) < nI (loN s) from Int32.lt_iff_toInt_lt.mpr (by rw [nI_toInt (by omega)]; have : (-1 : Int32).toInt = -1 := (by decide); omega))]; rfl
    | some i =>
      obtain ⟨hi, hsT, -⟩ := fi_iff.mp ef
      have hv := (hV.2.1 i hi).2
      have hix := ixN_b hb hv
      have fd : fdN tp a e N = nI (ixN (N.2 i)) := by unfold fdN; rw [ef]
      rw [ef] at preC
      have preC2 : f_X8_passName 1 (nI s) σc = zbr (nI i = (-1 : Int32)) (f_X8_passName_56 1 σc) (zck (zok 100 (100, 14) (nI i)) (zbr ((σc.1 7 (nI i).toNatClampNeg) = nI s) (zck (WC.2 2 = (9, 0)) (zbd (f_X9_next 2 σc) (fun r14 σ15 => zck (WC.2 (σ15.2 1 1) = (4, 0)) (zck (zok 100 (WC.2 (σ15.2 (σ15.2 1 1) 3)) (nI i)) (some ((σ15.1 (σ15.2 (σ15.2 1 1) 3) (nI i).toNatClampNeg), σ15)))))) (f_X8_passName_56 1 σc))) := preC
      rw [zbr_f (nI_m1 (by omega)), zck_t (zok_p (by omega) (by decide)), nI_clamp (by omega), (hNC.2 i hi).2.2.1] at preC2
      have hs5 : (N.2 i).2.2.1 ≤ 5 := by omega
      have hin : f_X11_in (nI (ixN (N.2 i))) (nI (loN s)) (nI (hiN s)) σm = some (bI (decide (loN s ≤ ixN (N.2 i) ∧ ixN (N.2 i) ≤ hiN s)), σm) := by
        unfold f_X11_in
        by_cases z1 : ixN (N.2 i) < loN s
        · rw [zbr_t (nI_lt z1 (by omega)), decide_eq_false (by omega)]; rfl
        · rw [zbr_f (nI_nlt (by omega) (by omega))]
          by_cases z2 : hiN s < ixN (N.2 i)
          · rw [zbr_t (nI_lt z2 (by omega)), decide_eq_false (by omega)]; rfl
          · rw [zbr_f (nI_nlt (by omega) (by omega)), decide_eq_true (by omega)]; rfl
      by_cases es : (N.2 i).2.2.1 = s
      · have hr : (loN s ≤ ixN (N.2 i) ∧ ixN (N.2 i) ≤ hiN s) ∧ ixN (N.2 i) = loN s + (N.2 i).2.2.2 ∧ (N.2 i).2.2.2 < kbN F s := by
          unfold ixN loN hiN kbN
          rw [es]
          rcases hs with rfl | rfl | rfl
          · simp only [if_true]; omega
          · simp; omega
          · simp; omega
        refine Or.inl ⟨(N.2 i).2.2.2, a', e', kd', τc, τm, hr.2.2, ?_, ?_, g4, g3⟩
        · have hNC' := g3.1.2.2.2.2.2.2.2.2.2.1
          have rr := g3.1.2.2.rs
          rw [preC2, zbr_t (by rw [es]), zck_t k2, g1, zbd_s, rr.2.2.1, zck_t k4, rr.2.2.2.2.2.2.2, k8, zck_t (zok_p (by omega) (by decide)), (hNC'.2 i hi).2.2.2]
        · rw [preM, fd, hin, zbd_s, decide_eq_true hr.1, zbr_f (by decide)]
          unfold f_X11_named_45
          rw [zbr_t h13, nI_sub hr.1.1, hr.2.1, Nat.add_sub_cancel_left]
      · have hr : ¬ (loN s ≤ ixN (N.2 i) ∧ ixN (N.2 i) ≤ hiN s) := by
          unfold ixN loN hiN
          rcases hs with rfl | rfl | rfl
          · rcases hv with z | z | z
            · exact absurd z.1 es
            · rw [z.1]; simp; omega
            · rw [z.1]; simp; omega
          · rcases hv with z | z | z
            · rw [z.1]; simp; omega
            · exact absurd z.1 es
            · rw [z.1]; simp; omega
          · rcases hv with z | z | z
            · rw [z.1]; simp; omega
            · rw [z.1]; simp; omega
            · exact absurd z.1 es
        refine Or.inr ⟨2, by omega, by omega, ?_, badM ?_⟩
        · rw [preC2, zbr_f (fun z => es ((nI_eq (by omega) (by omega)).mp z)), bad56]
        · rw [fd, hin, decide_eq_false hr]; rfl
  · refine Or.inr ⟨1, by omega, by omega, ?_, ?_⟩
    · unfold f_X8_passName
      rw [zck_t k1, r10, zck_t k2, hK.2.1.2.2]
      by_cases q2 : kd = 1
      · rw [zbr_t (show nI kd = (1 : Int32) by rw [q2]; rfl), C_lineWord hT hK r0 r10, zbd_s, zbr_f (nI_ne0 (by omega) (by omega)), bad18]
      · rw [zbr_f (show ¬ nI kd = (1 : Int32) from fun z => q2 ((nI_eq (b := 1) (by have := hK.1.2.2; omega) (by decide)).mp z)), bad18]
    · have mn := M_mustName hK hD.2.1 h13 hT.1
      rw [if_neg q1] at mn
      unfold f_X11_named
      rw [zck_t w0, zbr_t h13, mn, zbd_s, wr_13, zbr_f (by decide)]; rfl
end PR
