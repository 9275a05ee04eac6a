/-! a letter read to its end, on both sides -/
def EO (b : Bool) (tp : Nat → Nat) (n : Nat) (σ0 ρ0 : zS) (rc : Option (Unit × zS)) (rm : Option (Int32 × zS)) : Prop :=
  (∃ F R N a e kd τc τm, rc = some ((), τc) ∧ rm = f_X11_letter_184 0 τm ∧ SS b tp n F R N a e kd τc τm ∧ VV tp n F R N ∧ F 9 = 1 ∧ F 1 ≠ 0 ∧ fr (PCd b) σ0 τc ∧ fr PMd ρ0 τm) ∨
  (∃ f y τc τm, 1 ≤ f ∧ f ≤ 7 ∧ rc = some ((), τc) ∧ rm = f_X11_letter_184 0 τm ∧ BC b σ0 τc (nI f) y ∧ BM ρ0 τm (nI f) y)
section FI
variable {b : Bool} {tp F R : Nat → Nat} {n a e kd : Nat} {N : nT} {σ0 ρ0 σc σm : zS}
theorem Cf_40 (x3 : Int32) (σ : zS) (f : Nat) : f_X8_readFirst_40 1 (f + 1) 0 x3 σ = some ((), σ) := by
  have h80 : f_X8_readFirst_80 1 0 σ = some ((), σ) := by
    unfold f_X8_readFirst_80 f_X8_readFirst_103
    rw [zbr_t (c := (0 : Int32) = 0) rfl, zbr_t (c := (0 : Int32) = 0) rfl]
  rw [f_X8_readFirst_40, h80, zbr_t (c := (0 : Int32) = 0) rfl]
  by_cases z : (900 : Int32) ≤ x3
  · rw [zbr_t z]
  · rw [zbr_f z]
theorem Mf_148 {σ : zS} (h : σ.1 0 13 = 1) : f_X11_letter_148 0 σ = f_X11_letter_184 0 σ := by unfold f_X11_letter_148; rw [zbr_f (by rw [h]; decide)]
theorem Mf_98 {σ : zS} (h : σ.1 0 13 = 1) (g : Nat) : f_X11_letter_98 0 (g + 1) σ = f_X11_letter_184 0 σ := by
  rw [f_X11_letter_98, zbr_f (by rw [h]; decide)]
  unfold f_X11_letter_125
  rw [zbr_f (by rw [h]; decide), Mf_148 h]
theorem BC_e {f y : Int32} {τ : zS} (h : fr (PCd b) σ0 σc) (g : BC b σc τ f y) : BC b σ0 τ f y := ⟨g.1, g.2.1, h.tre g.2.2⟩
theorem BM_e {f y : Int32} {τ : zS} (h : fr PMd ρ0 σm) (g : BM σm τ f y) : BM ρ0 τ f y := ⟨g.1, g.2.1, g.2.2.1, h.trm g.2.2.2⟩
theorem L_end (S : SS b tp n F R N a e kd σc σm) (V : VV tp n F R N) (h9 : F 9 = 1) (fC : fr (PCd b) σ0 σc) (fM : fr PMd ρ0 σm) (h3 : kd ≠ 3) {i : Nat} (hi : i ≤ 900) (f g : Nat) : EO b tp n σ0 ρ0 (f_X8_readFirst_40 1 (f + 1) 1 (nI i) σc) (f_X11_letter_98 0 (g + 1) σm) := by
  obtain ⟨r10, r12, hR, h13, kL⟩ := S.q
  obtain ⟨v0, v1, v2, v3, v4, v6, v8⟩ := V.1.1
  have hk4 := S.2.1.1.2.2
  have c5 := S.2.1.2.1.2.2
  have ec : f_X8_readFirst_40 1 (f + 1) 1 (nI i) σc = f_X8_readFirst_80 1 1 σc := by
    rw [f_X8_readFirst_40]
    by_cases z : (900 : Int32) ≤ nI i
    · rw [zbr_t z]
    · rw [zbr_f z, zbr_f z10, r10, zck_t k2, c5, zbr_f (show ¬ nI kd = (3 : Int32) from fun z => h3 ((nI_eq (b := 3) (by omega) (by decide)).mp z))]
  have em : f_X11_letter_98 0 (g + 1) σm = f_X11_letter_125 0 σm := by
    rw [f_X11_letter_98, zbr_t h13, S.2.1.2.2.1.2.2, zbr_f (fun z => h3 ((tkM_59 hk4).mp z))]
  rw [ec, em]
  unfold f_X8_readFirst_80 f_X11_letter_125
  rw [zbr_f z10, r10, zck_t k2, c5, zbr_t h13, S.2.1.2.2.1.2.2]
  by_cases hk : kd = 0
  · rw [zbr_t (show nI kd = (0 : Int32) by rw [hk]; rfl), zbr_t ((tkM_0 hk4).mpr hk)]
    unfold f_X8_readFirst_103 f_X11_letter_148
    rw [zbr_f z10, r12, zck_t kL, S.g.1.2.1, zbr_t h13, mr16 hR, w4, zck_t (by decide), cl9, S.r4 9 (by omega), h9, zbr_f (show ¬ nI 1 = (0 : Int32) by decide), zck_t (by decide), cl1, S.r4 1 (by omega)]
    by_cases hp : F 1 = 0
    · rw [zbr_t (show nI (F 1) = (0 : Int32) by rw [hp]; rfl), zbr_t (show nI (F 1) = (0 : Int32) by rw [hp]; rfl)]
      unfold f_X11_letter_174
      refine Or.inr ⟨6, nI a, _, _, by omega, by omega, ?_, ?_, BC_w fC (nI 6) (nI a), BM_w fM (nI 6) (nI a)⟩
      · rw [C_blame S.2.1 r10, zbd_s]; rfl
      · rw [S.2.1.2.2.1.1, M_wrong h13, zbd_s]; rfl
    · rw [zbr_f (nI_ne0 (by omega) (by omega)), zbr_f (nI_ne0 (by omega) (by omega))]
      exact Or.inl ⟨F, R, N, a, e, kd, σc, σm, rfl, rfl, S, V, h9, hp, fC, fM⟩
  · rw [zbr_f (nI_ne0 (by omega) (by omega)), zbr_f (fun z => hk ((tkM_0 hk4).mp z))]
    refine Or.inr ⟨1, nI a, _, _, by omega, by omega, ?_, ?_, BC_w fC (nI 1) (nI a), BM_w fM (nI 1) (nI a)⟩
    · rw [C_blame S.2.1 r10, zbd_s]; rfl
    · rw [S.2.1.2.2.1.1, M_wrong h13, zbd_s, Mf_148 (wr_13 _ _ _)]; rfl
theorem L_loop : ∀ d {F R : Nat → Nat} {N : nT} {a e kd : Nat} {σc σm : zS} {i : Nat}, SS b tp n F R N a e kd σc σm → VV tp n F R N → F 9 = 1 → fr (PCd b) σ0 σc → fr PMd ρ0 σm → i ≤ a → n ≤ a + d → ∀ f g, d + 1 < f → d + 1 < g → EO b tp n σ0 ρ0 (f_X8_readFirst_40 1 f 1 (nI i) σc) (f_X11_letter_98 0 g σm) := by
  intro d
  induction d with
  | zero =>
    intro F R N a e kd σc σm i S V h9 fC fM hi hd f g hf hg
    obtain ⟨f, rfl⟩ : ∃ x, f = x + 1 := ⟨f - 1, by omega⟩
    obtain ⟨g, rfl⟩ : ∃ x, g = x + 1 := ⟨g - 1, by omega⟩
    have x1 := S.2.1.1
    have x2 := S.1.1
    have x3 := S.2.1.2.2.2.2.2
    exact L_end S V h9 fC fM (fun z => by have := x3 z; omega) (by omega) f g
  | succ d ih =>
    intro F R N a e kd σc σm i S V h9 fC fM hi hd f g hf hg
    obtain ⟨f, rfl⟩ : ∃ x, f = x + 1 := ⟨f - 1, by omega⟩
    obtain ⟨g, rfl⟩ : ∃ x, g = x + 1 := ⟨g - 1, by omega⟩
    have x1 := S.2.1.1
    have x2 := S.1.1
    have x3 := S.2.1.2.2.2.2.2
    by_cases h3 : kd = 3
    · have he := x3 h3
      obtain ⟨r10, r12, hR, h13, kL⟩ := S.q
      obtain ⟨a1, e1, kd1, c1, m1, y1, y2, y3⟩ := NX S
      have S1 := y3.1
      have ec : f_X8_readFirst_40 1 (f + 1) 1 (nI i) σc = zbd (f_X8_readLine 1 c1) (fun r10 σ11 => zlt r10 (fun v12 => zlt (nI i + (1 : Int32)) (fun v13 => f_X8_readFirst_40 1 f v12 v13 σ11))) := by
        rw [f_X8_readFirst_40, zbr_f (show ¬ (900 : Int32) ≤ nI i from (nI_ge (by omega) (by omega) : ¬ nI 900 ≤ nI i)), zbr_f z10, r10, zck_t k2, S.2.1.2.1.2.2, zbr_t (show nI kd = (3 : Int32) by rw [h3]; rfl), y1, zbd_s]
      have em : f_X11_letter_98 0 (g + 1) σm = zbd (f_X11_readLine 0 m1) (fun r18 σ19 => f_X11_letter_98 0 g σ19) := by
        rw [f_X11_letter_98, zbr_t h13, S.2.1.2.2.1.2.2, zbr_t ((tkM_59 x1.2.2).mpr h3), y2, zbd_s]
      rw [ec, em]
      have l1 := y3.2.2.2
      have l2 := S1.2.1.1.1
      rcases L_line S1 V h9 with ⟨F', R', N', a', e', kd', τc, τm, z1, z2, z3, z4, z5, z6, z7, z8⟩ | ⟨f', y, τc, τm, z1, z2, z3, z4, z5, z6⟩
      · rw [z1, z2, zbd_s, zbd_s, zlt_e, zlt_e, nI_1]
        exact ih z3 z4 z5 ((fC.tr y3.c).tr z6) ((fM.tr y3.m).tr z7) (by omega) (by omega) f g (by omega) (by omega)
      · obtain ⟨f, rfl⟩ : ∃ x, f = x + 1 := ⟨f - 1, by omega⟩
        obtain ⟨g, rfl⟩ : ∃ x, g = x + 1 := ⟨g - 1, by omega⟩
        rw [z3, z4, zbd_s, zbd_s, zlt_e, zlt_e, Cf_40, Mf_98 z6.1]
        exact Or.inr ⟨f', y, τc, τm, z1, z2, rfl, rfl, BC_e (fC.tr y3.c) z5, BM_e (fM.tr y3.m) z6⟩
    · exact L_end S V h9 fC fM h3 (by omega) f g
/-- from the first token on -/
theorem L_all (S : SS b tp n F R N a e kd σc σm) (V : VV tp n F R N) (h9 : F 9 = 0) (hz : F 1 = 0 ∧ F 2 = 0 ∧ F 3 = 0 ∧ F 4 = 0 ∧ R 48 = 0 ∧ F 6 = 0 ∧ F 8 = 0) : EO b tp n σc σm (zbd (f_X8_readHead 1 σc) (fun r24 σ25 => zlt r24 (fun v26 => zlt (0 : Int32) (fun v27 => f_X8_readFirst_40 1 FU v26 v27 σ25)))) (zbd (f_X11_readLine 0 σm) (fun r24 σ25 => f_X11_letter_98 0 FU σ25)) := by
  have x2 := S.1.1
  rcases L_head S V h9 hz with ⟨F', R', N', a', e', kd', τc, τm, z1, z2, z3, z4, z5, z6, z7, z8⟩ | ⟨f', y, τc, τm, z1, z2, z3, z4, z5, z6⟩
  · rw [z1, z2, zbd_s, zbd_s, zlt_e, zlt_e]
    exact L_loop (n - a') z3 z4 z5 z6 z7 (Nat.zero_le _) (by omega) FU FU (by unfold FU; omega) (by unfold FU; omega)
  · rw [z3, z4, zbd_s, zbd_s, zlt_e, zlt_e]
    show EO b tp n σc σm (f_X8_readFirst_40 1 (1999 + 1) 0 0 τc) (f_X11_letter_98 0 (1999 + 1) τm)
    rw [Cf_40, Mf_98 z6.1]
    exact Or.inr ⟨f', y, τc, τm, z1, z2, rfl, rfl, z5, z6⟩
end FI
