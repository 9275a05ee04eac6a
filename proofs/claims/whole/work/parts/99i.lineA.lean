/-! lines: places, hands, matters, hidden lines -/
section LA
variable {b : Bool} {tp F R F' R' : Nat → Nat} {n a e kd : Nat} {N : nT} {σc σm : zS}
theorem SS.u {ωc ωm : zS} (h : SS b tp n F R N a e kd σc σm) (fc : fr (fun x _ => Ld b ≤ x ∧ x ≤ Ld b + 18) σc ωc) (fm : fr (fun x k => x = 6 ∨ (x = 4 ∧ k < 69)) σm ωm) (g1 : gA (Ld b) F' ωc.1) (g2 : pI (Ld b + 8) R' ωc.1) (g3 : ∀ k, k < 69 → ωm.1 4 k = nI (F' k)) (g4 : ∀ k, k < 50 → ωm.1 6 k = nI (R' k)) : SS b tp n F' R' N a e kd ωc ωm := by
  have hv := Ld_v b
  obtain ⟨hT, hK, d1, d2, d3, d4, d5, d6, d7, d8, d9⟩ := h
  exact ⟨hT.d (b := b) (fc.mo (fun x l z => by unfold PCd; omega)) (fm.mo (fun x l z => by unfold PMd; omega)), hK.f (fun l => fc.2 2 l (by omega)) (fun l _ _ => fm.2 0 l (by omega)) (fun l => fm.2 2 l (by omega)), fc.1.trans d1, fm.1.trans d2, g1, g2, g3, g4, (fm.2 0 13 (by omega)).trans d7, d8.f (fun x l z1 z2 => fc.2 x l (by omega)), d9.f (fun l z => fm.2 4 l (by omega))⟩
theorem SS.q (h : SS b tp n F R N a e kd σc σm) : σc.2 1 0 = 2 ∧ σc.2 1 2 = Ld b ∧ σm.2 = RM ∧ σm.1 0 13 = 0 ∧ WC.2 (Ld b) = (3, 0) := ⟨h.2.2.rs.2.1, h.2.2.rs.2.2.2.1, h.2.2.2.1, h.2.2.2.2.2.2.2.2.1, h.2.2.k.1⟩
theorem SS.g (h : SS b tp n F R N a e kd σc σm) : gA (Ld b) F σc.1 := h.2.2.2.2.1
theorem SS.p (h : SS b tp n F R N a e kd σc σm) : pI (Ld b + 8) R σc.1 := h.2.2.2.2.2.1
theorem SS.r4 (h : SS b tp n F R N a e kd σc σm) : ∀ k, k < 69 → σm.1 4 k = nI (F k) := h.2.2.2.2.2.2.1
theorem SS.r6 (h : SS b tp n F R N a e kd σc σm) : ∀ k, k < 50 → σm.1 6 k = nI (R k) := h.2.2.2.2.2.2.2.1
theorem pc_d : fr (fun x _ => Ld b ≤ x ∧ x ≤ Ld b + 18) σc σm → fr (PCd b) σc σm := fun h => h.mo (fun x l z => by unfold PCd; omega)
theorem pm_d : fr (fun x k => x = 6 ∨ (x = 4 ∧ k < 69)) σc σm → fr PMd σc σm := fun h => h.mo (fun x l z => by unfold PMd; omega)
theorem jc_0 (b : Bool) (F : Nat → Nat) : jc (Ld b) F 0 0 := by
  have hv := Ld_v b
  unfold jc
  refine ⟨fun l _ => by omega, by omega, fun p _ => by omega, fun p _ => by omega, fun p _ => by omega, fun p _ => by omega, fun p _ => by omega, fun p _ => by omega⟩
theorem C_hasRank {c : Nat} {σ : zS} (hk : lK c σ.2) (hg : gA c F σ.1) (h6 : F 1 ≤ 6) (hr : ∀ p, p < F 1 → F (10 + 2 * p) < 1000) {v : Nat} (hv : v < 1000) : f_X3_hasRank c (nI v) σ = some (bI (an (fun p => decide (F (10 + 2 * p) = v)) (F 1)), σ) := by
  obtain ⟨k0, ⟨k1, -⟩, ⟨k7, -⟩, -⟩ := hk
  unfold f_X3_hasRank
  rw [zck_t k0, zlt_e]
  suffices key : ∀ k, k ≤ F 1 → ∀ f, F 1 - k < f → (∀ p, p < k → F (10 + 2 * p) ≠ v) → f_X3_hasRank_2 c f (nI v) (nI k) σ = some (bI (an (fun p => decide (F (10 + 2 * p) = v)) (F 1)), σ) from key 0 (Nat.zero_le _) FU (by unfold FU; omega) (fun p hp => absurd hp (Nat.not_lt_zero p))
  refine zup (P := fun f k => (∀ p, p < k → F (10 + 2 * p) ≠ v) → f_X3_hasRank_2 c f (nI v) (nI k) σ = _) (F 1) ?_ ?_
  · intro f hall
    rw [f_X3_hasRank_2, hg.1.2.1, zbr_t (Int32.le_refl _), show an (fun p => decide (F (10 + 2 * p) = v)) (F 1) = false by
      cases q : an (fun p => decide (F (10 + 2 * p) = v)) (F 1) with
      | false => rfl
      | true =>
        obtain ⟨p, hp, z⟩ := an_iff.mp q
        exact absurd (of_decide_eq_true z) (hall p hp)]
    rfl
  · intro f k hk ih hall
    rw [f_X3_hasRank_2, hg.1.2.1, zbr_f (nI_ge hk (by omega)), k1, k7, zck_t (zok_p (by omega) (by decide)), nI_clamp (by omega), (hg.2.1 k hk).1]
    by_cases z : F (10 + 2 * k) = v
    · rw [z, zbr_t rfl, show an (fun p => decide (F (10 + 2 * p) = v)) (F 1) = true from an_iff.mpr ⟨k, hk, decide_eq_true z⟩]; rfl
    · rw [zbr_f (fun y => z ((nI_eq (by have := hr k hk; omega) (by omega)).mp y)), zlt_e, nI_1]
      exact ih (fun p hp => by
        by_cases y : p = k
        · rw [y]; exact z
        · exact hall p (by omega))
theorem px10 (k : Nat) : (10 : Int32) + (2 : Int32) * nI k = nI (10 + 2 * k) := by show nI 10 + nI 2 * nI k = _; rw [nI_mul, nI_add]
def g46 (x y : Int32) (σ : zS) : Option (Unit × zS) := (zbd (f_X11_pass 0 σ) (fun r2 σ3 => zck (zok 100 (WM.2 (σ3.2 0 16)) x) (zlt (zpi σ3 (σ3.2 0 16) x.toNatClampNeg y) (fun σ4 => zbd (f_X11_after 0 (1000 + 11) (1 : Int32) (9 : Int32) σ4) (fun r5 σ6 => zck (zok 100 (WM.2 (σ4.2 0 16)) (x + (1 : Int32))) (zlt (zpi σ6 (σ4.2 0 16) (x + (1 : Int32)).toNatClampNeg r5) (fun σ7 => zbr ((σ7.1 0 13) = 0) (zck (zok 100 (WM.2 (σ7.2 0 16)) (1 : Int32)) (zck (zok 100 (WM.2 (σ7.2 0 16)) (1 : Int32)) (zlt (zpi σ7 (σ7.2 0 16) (1 : Int32).toNatClampNeg ((σ7.1 (σ7.2 0 16) (1 : Int32).toNatClampNeg) + (1 : Int32))) (fun σ8 => some ((), σ8))))) (some ((), σ7)))))))))
/-- the reference's search of a rank, once it failed -/
theorem Mf_46 {τ : zS} (hR : τ.2 = RM) (h13 : τ.1 0 13 = 1) (h1 : τ.1 4 1 = nI (F 1)) (h6 : F 1 < 6) (x2 : Int32) {j : Nat} (hj : j < 100) : ∀ k, k ≤ F 1 → ∀ f, F 1 - k < f → f_X11_placeLine_46 0 f (nI j) x2 (nI k) τ = some ((), zpi (zpi τ 4 j x2) 4 (j + 1) 1) := by
  have m16 := mr16 hR
  refine zup (P := fun f k => f_X11_placeLine_46 0 f (nI j) x2 (nI k) τ = _) (F 1) ?_ ?_
  · intro f
    have q13 : (zpi τ 4 j x2).1 0 13 = 1 := (zpi_ne _ _ (by omega)).trans h13
    rw [f_X11_placeLine_46, m16, w4, zck_t (by decide), show ((1 : Int32).toNatClampNeg) = 1 from rfl, h1, zbr_t (Int32.le_refl _), Mf_pass h13, zbd_s, m16, w4, zck_t (zok_p (by omega) (by decide)), zlt_e, nI_clamp (by omega), Mf_after q13, zbd_s, zpi_2, m16, w4, nI_1, zck_t (zok_p (by omega) (by decide)), zlt_e, nI_clamp (by omega), zbr_f (by rw [zpi_ne _ _ (by omega), q13]; decide)]
  · intro f k hk ih
    rw [f_X11_placeLine_46, m16, w4, zck_t (by decide), show ((1 : Int32).toNatClampNeg) = 1 from rfl, h1, zbr_f (nI_ge hk (by omega)), zbr_f (by rw [h13]; decide)]
    unfold f_X11_placeLine_87
    rw [zlt_e, nI_1]
    exact ih
theorem M_46 (hR : σm.2 = RM) (h13 : σm.1 0 13 = 0) (h4 : ∀ k, k < 69 → σm.1 4 k = nI (F k)) (h6 : F 1 < 6) (hr : ∀ p, p < F 1 → F (10 + 2 * p) < 1000) {v : Nat} (hv : v < 1000) {j : Nat} (hj : j < 100) (y : Int32) (hy : σm.1 0 4 = y) :
    (an (fun p => decide (F (10 + 2 * p) = v)) (F 1) = true → f_X11_placeLine_46 0 FU (nI j) (nI v) 0 σm = some ((), zpi (zpi (wr σm 3 y) 4 j (nI v)) 4 (j + 1) 1)) ∧ (an (fun p => decide (F (10 + 2 * p) = v)) (F 1) = false → f_X11_placeLine_46 0 FU (nI j) (nI v) 0 σm = g46 (nI j) (nI v) σm) := by
  have m16 := mr16 hR
  have h1 := h4 1 (by omega)
  suffices key : ∀ k, k ≤ F 1 → ∀ f, F 1 - k < f → (∀ p, p < k → F (10 + 2 * p) ≠ v) → (an (fun p => decide (F (10 + 2 * p) = v)) (F 1) = true → f_X11_placeLine_46 0 f (nI j) (nI v) (nI k) σm = some ((), zpi (zpi (wr σm 3 y) 4 j (nI v)) 4 (j + 1) 1)) ∧ (an (fun p => decide (F (10 + 2 * p) = v)) (F 1) = false → f_X11_placeLine_46 0 f (nI j) (nI v) (nI k) σm = g46 (nI j) (nI v) σm) from key 0 (Nat.zero_le _) FU (by unfold FU; omega) (fun p hp => absurd hp (Nat.not_lt_zero p))
  intro k hk
  obtain ⟨d, hd⟩ : ∃ d, k + d = F 1 := ⟨F 1 - k, by omega⟩
  induction d generalizing k with
  | zero =>
    intro f hf hall
    obtain ⟨g, rfl⟩ : ∃ g, f = g + 1 := ⟨f - 1, by omega⟩
    have hk' : k = F 1 := by omega
    subst hk'
    refine ⟨fun q => ?_, fun _ => ?_⟩
    · obtain ⟨p, hp, z⟩ := an_iff.mp q
      exact absurd (of_decide_eq_true z) (hall p hp)
    · rw [f_X11_placeLine_46, m16, w4, zck_t (by decide), show ((1 : Int32).toNatClampNeg) = 1 from rfl, h1, zbr_t (Int32.le_refl _)]; rfl
  | succ d ih =>
    intro f hf hall
    obtain ⟨g, rfl⟩ : ∃ g, f = g + 1 := ⟨f - 1, by omega⟩
    have hk2 : k < F 1 := by omega
    have st : ∀ Y : Option (Unit × zS), f_X11_placeLine_46 0 (g + 1) (nI j) (nI v) (nI k) σm = Y ↔ zbr (nI (F (10 + 2 * k)) = nI v) (zbd (f_X11_wrong 0 (3 : Int32) (σm.1 0 4) σm) (fun r9 σ10 => f_X11_placeLine_87 0 (f_X11_placeLine_46 0 g) (nI j) (nI v) (nI k) σ10)) (f_X11_placeLine_87 0 (f_X11_placeLine_46 0 g) (nI j) (nI v) (nI k) σm) = Y := by
      intro Y
      rw [f_X11_placeLine_46, m16, w4, zck_t (by decide), show ((1 : Int32).toNatClampNeg) = 1 from rfl, h1, zbr_f (nI_ge hk2 (by omega)), zbr_t h13, px10, zck_t (zok_p (by omega) (by decide)), nI_clamp (by omega), h4 _ (by omega)]
    by_cases z : F (10 + 2 * k) = v
    · have hw : (wr σm 3 y).2 = RM := hR
      have hw4 : (wr σm 3 y).1 4 1 = nI (F 1) := by unfold wr; rw [zpi_ne _ _ (by omega), zpi_ne _ _ (by omega), zpi_ne _ _ (by omega)]; exact h1
      have ht : an (fun p => decide (F (10 + 2 * p) = v)) (F 1) = true := an_iff.mpr ⟨k, hk2, decide_eq_true z⟩
      refine ⟨fun _ => (st _).mpr ?_, fun q => absurd (q.symm.trans ht) (by decide)⟩
      rw [zbr_t (by rw [z]), M_wrong h13, zbd_s, hy]
      unfold f_X11_placeLine_87
      rw [zlt_e, nI_1]
      exact Mf_46 (F := F) hw (wr_13 _ _ _) hw4 h6 (nI v) hj (k + 1) (by omega) g (by omega)
    · have hi := ih (k + 1) (by omega) (by omega) g (by omega) (fun p hp => by
        by_cases y : p = k
        · rw [y]; exact z
        · exact hall p (by omega))
      have sp : zbr (nI (F (10 + 2 * k)) = nI v) (zbd (f_X11_wrong 0 (3 : Int32) (σm.1 0 4) σm) (fun r9 σ10 => f_X11_placeLine_87 0 (f_X11_placeLine_46 0 g) (nI j) (nI v) (nI k) σ10)) (f_X11_placeLine_87 0 (f_X11_placeLine_46 0 g) (nI j) (nI v) (nI k) σm) = f_X11_placeLine_46 0 g (nI j) (nI v) (nI (k + 1)) σm := by
        rw [zbr_f (fun y => z ((nI_eq (by have := hr k hk2; omega) (by omega)).mp y))]
        unfold f_X11_placeLine_87
        rw [zlt_e, nI_1]
      exact ⟨fun q => (st _).mpr (sp.trans (hi.1 q)), fun q => (st _).mpr (sp.trans (hi.2 q))⟩
end LA
