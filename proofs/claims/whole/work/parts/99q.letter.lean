/-! the letter -/
def Fz : Nat → Nat := fun _ => 0
def N0 : nT := (0, fun _ => (0, 0, 0, 0))
theorem mk_Fz : mk (skB Fz) 8 = 0 := by decide
theorem C_empty {b : Bool} {σ : zS} (hk : lK (Ld b) σ.2) : zH (f_X3_empty (Ld b) σ) (fun _ τ => fr (fun x _ => Ld b ≤ x ∧ x ≤ Ld b + 18) σ τ ∧ gA (Ld b) Fz τ.1 ∧ pI (Ld b + 8) Fz τ.1) := by
  unfold f_X3_empty f_X6_empty
  refine zH_ck hk.1 ?_
  rw [hk.2.1.2.2.2.2.2.2.2.1]
  refine zH_ck hk.2.2.2.2.2.2.1 (zH_bd (zH_ck hk.2.2.2.2.2.2.1 (zH_lt (zH_lt (zH_lt (zH_ok ?_))))))
  rw [zpi_2, zpi_2, zpi_2, hk.2.1.2.2.2.2.2.2.2.2]
  refine zH_ck hk.2.2.2.1 (zH_lt (zH_lt (zH_lt (zH_lt (zH_lt (zH_lt (zH_lt (zH_lt (zH_ok ?_)))))))))
  refine ⟨((((((((((fr_r _ σ).pi _ (by omega)).pi _ (by omega)).pi _ (by omega)).pi _ (by omega)).pi _ (by omega)).pi _ (by omega)).pi _ (by omega)).pi _ (by omega)).pi _ (by omega)).pi _ (by omega) |>.pi _ (by omega), ⟨⟨?_, ?_, ?_, ?_, ?_, ?_, ?_, ?_⟩, fun p hp => absurd hp (Nat.not_lt_zero p), fun p hp => absurd hp (Nat.not_lt_zero p), fun p hp => absurd hp (Nat.not_lt_zero p), fun p hp => absurd hp (Nat.not_lt_zero p), fun p hp => absurd hp (Nat.not_lt_zero p), fun p hp => absurd hp (Nat.not_lt_zero p)⟩, ?_, ?_, ?_, fun p hp => absurd hp (Nat.not_lt_zero p)⟩
  · rw [zpi_ne _ _ (by omega), zpi_ne _ _ (by omega), zpi_ne _ _ (by omega), zpi_ne _ _ (by omega), zpi_ne _ _ (by omega), zpi_ne _ _ (by omega), zpi_eq]; rfl
  · rw [zpi_ne _ _ (by omega), zpi_ne _ _ (by omega), zpi_ne _ _ (by omega), zpi_ne _ _ (by omega), zpi_ne _ _ (by omega), zpi_eq]; rfl
  · rw [zpi_ne _ _ (by omega), zpi_ne _ _ (by omega), zpi_ne _ _ (by omega), zpi_ne _ _ (by omega), zpi_eq]; rfl
  · rw [zpi_ne _ _ (by omega), zpi_ne _ _ (by omega), zpi_ne _ _ (by omega), zpi_eq]; rfl
  · rw [zpi_ne _ _ (by omega), zpi_ne _ _ (by omega), zpi_eq]; rfl
  · rw [zpi_ne _ _ (by omega), zpi_eq]; rfl
  · rw [zpi_eq]; rfl
  · rw [zpi_ne _ _ (by omega), zpi_ne _ _ (by omega), zpi_ne _ _ (by omega), zpi_ne _ _ (by omega), zpi_ne _ _ (by omega), zpi_ne _ _ (by omega), zpi_ne _ _ (by omega), zpi_eq]; rfl
  · rw [zpi_ne _ _ (by omega), zpi_ne _ _ (by omega), zpi_ne _ _ (by omega), zpi_ne _ _ (by omega), zpi_ne _ _ (by omega), zpi_ne _ _ (by omega), zpi_ne _ _ (by omega), zpi_ne _ _ (by omega), zpi_ne _ _ (by omega), zpi_ne _ _ (by omega), zpi_eq]; rfl
  · rw [mk_Fz, zpi_ne _ _ (by omega), zpi_ne _ _ (by omega), zpi_ne _ _ (by omega), zpi_ne _ _ (by omega), zpi_ne _ _ (by omega), zpi_ne _ _ (by omega), zpi_ne _ _ (by omega), zpi_ne _ _ (by omega), zpi_ne _ _ (by omega), zpi_eq]; rfl
  · rw [zpi_ne _ _ (by omega), zpi_ne _ _ (by omega), zpi_ne _ _ (by omega), zpi_ne _ _ (by omega), zpi_ne _ _ (by omega), zpi_ne _ _ (by omega), zpi_ne _ _ (by omega), zpi_ne _ _ (by omega), zpi_eq]; rfl
/-- the reference's rows are emptied -/
theorem M_61 {σ : zS} (hR : σ.2 = RM) (x : Int32) : ∃ τ, fr (fun a _ => a = 6) σ τ ∧ (∀ k, k < 50 → τ.1 6 k = 0) ∧ f_X11_letter_61 0 FU x 0 σ = zbd (f_X11_next 0 (zpi (zpi τ 0 3 x) 0 5 0)) (fun _ σ23 => zbd (f_X11_readLine 0 σ23) (fun _ σ25 => f_X11_letter_98 0 FU σ25)) := by
  suffices key : ∀ k, k ≤ 50 → ∀ f, 50 - k < f → ∀ υ, fr (fun a _ => a = 6) σ υ → (∀ l, l < k → υ.1 6 l = 0) → ∃ τ, fr (fun a _ => a = 6) σ τ ∧ (∀ k, k < 50 → τ.1 6 k = 0) ∧ f_X11_letter_61 0 f x (nI k) υ = zbd (f_X11_next 0 (zpi (zpi τ 0 3 x) 0 5 0)) (fun _ σ23 => zbd (f_X11_readLine 0 σ23) (fun _ σ25 => f_X11_letter_98 0 FU σ25)) from key 0 (Nat.zero_le _) FU (by unfold FU; omega) σ (fr_r _ _) (fun l hl => absurd hl (Nat.not_lt_zero l))
  refine zup (P := fun f k => ∀ υ, fr (fun a _ => a = 6) σ υ → (∀ l, l < k → υ.1 6 l = 0) → ∃ τ, fr (fun a _ => a = 6) σ τ ∧ (∀ k, k < 50 → τ.1 6 k = 0) ∧ f_X11_letter_61 0 f x (nI k) υ = zbd (f_X11_next 0 (zpi (zpi τ 0 3 x) 0 5 0)) (fun _ σ23 => zbd (f_X11_readLine 0 σ23) (fun _ σ25 => f_X11_letter_98 0 FU σ25))) 50 ?_ ?_
  · intro f υ hF hall
    refine ⟨υ, hF, hall, ?_⟩
    rw [f_X11_letter_61, zbr_t (show (50 : Int32) ≤ nI 50 by decide), zlt_e, zlt_e]
  · intro f k hk ih υ hF hall
    obtain ⟨τ, g1, g2, g3⟩ := ih (zpi υ 6 k 0) (hF.pi _ rfl) (fun l hl => by
      by_cases z : l = k
      · rw [z, zpi_eq]
      · rw [zpi_ne _ _ (by omega)]; exact hall l (by omega))
    refine ⟨τ, g1, g2, ?_⟩
    rw [f_X11_letter_61, zbr_f (show ¬ (50 : Int32) ≤ nI k from (nI_ge hk (by omega) : ¬ nI 50 ≤ nI k)), mr18 (hF.1.trans hR), w6, zck_t (zok_p (by omega) (by decide)), zlt_e, zlt_e, nI_clamp (by omega), nI_1]
    exact g3
theorem M_39 {σ : zS} (hR : σ.2 = RM) (x : Int32) : ∃ τ, fr (fun a _ => a = 4 ∨ a = 6) σ τ ∧ (∀ k, k < 195 → τ.1 4 k = 0) ∧ (∀ k, k < 50 → τ.1 6 k = 0) ∧ f_X11_letter_39 0 FU x 0 σ = zbd (f_X11_next 0 (zpi (zpi τ 0 3 x) 0 5 0)) (fun _ σ23 => zbd (f_X11_readLine 0 σ23) (fun _ σ25 => f_X11_letter_98 0 FU σ25)) := by
  suffices key : ∀ k, k ≤ 195 → ∀ f, 195 - k < f → ∀ υ, fr (fun a _ => a = 4) σ υ → (∀ l, l < k → υ.1 4 l = 0) → ∃ τ, fr (fun a _ => a = 4) σ τ ∧ (∀ k, k < 195 → τ.1 4 k = 0) ∧ f_X11_letter_39 0 f x (nI k) υ = f_X11_letter_61 0 FU x 0 τ from by
    obtain ⟨τ, g1, g2, g3⟩ := key 0 (Nat.zero_le _) FU (by unfold FU; omega) σ (fr_r _ _) (fun l hl => absurd hl (Nat.not_lt_zero l))
    obtain ⟨υ, k1, k2, k3⟩ := M_61 (g1.1.trans hR) x
    exact ⟨υ, (g1.mo (fun _ _ z => Or.inl z)).tr (k1.mo (fun _ _ z => Or.inr z)), fun k hk => (k1.2 4 k (by omega)).trans (g2 k hk), k2, g3.trans k3⟩
  refine zup (P := fun f k => ∀ υ, fr (fun a _ => a = 4) σ υ → (∀ l, l < k → υ.1 4 l = 0) → ∃ τ, fr (fun a _ => a = 4) σ τ ∧ (∀ k, k < 195 → τ.1 4 k = 0) ∧ f_X11_letter_39 0 f x (nI k) υ = f_X11_letter_61 0 FU x 0 τ) 195 ?_ ?_
  · intro f υ hF hall
    refine ⟨υ, hF, hall, ?_⟩
    rw [f_X11_letter_39, zbr_t (show (195 : Int32) ≤ nI 195 by decide), zlt_e]
  · intro f k hk ih υ hF hall
    obtain ⟨τ, g1, g2, g3⟩ := ih (zpi υ 4 k 0) (hF.pi _ rfl) (fun l hl => by
      by_cases z : l = k
      · rw [z, zpi_eq]
      · rw [zpi_ne _ _ (by omega)]; exact hall l (by omega))
    refine ⟨τ, g1, g2, ?_⟩
    rw [f_X11_letter_39, zbr_f (show ¬ (195 : Int32) ≤ nI k from (nI_ge hk (by omega) : ¬ nI 195 ≤ nI k)), mr16 (hF.1.trans hR), w4, zck_t (zok_p (by omega) (by decide)), zlt_e, zlt_e, nI_clamp (by omega), nI_1]
    exact g3
theorem VV_0 (tp : Nat → Nat) (n : Nat) : VV tp n Fz Fz N0 := by
  have z : ∀ k, Fz k = 0 := fun _ => rfl
  refine ⟨⟨by simp only [z]; omega, ?_, ?_, ?_, ?_, ?_, ?_, ?_, ?_⟩, ⟨⟨?_, ?_, ?_⟩, ?_⟩, ⟨?_, ?_, ?_⟩, ?_, ?_⟩
  · intro p hp; rw [z] at hp; omega
  · intro p q hp; rw [z] at hp; omega
  · intro p hp; rw [z] at hp; omega
  · intro p q hp; rw [z] at hp; omega
  · intro p hp; rw [z] at hp; omega
  · intro p hp; rw [z] at hp; omega
  · intro p hp; rw [z] at hp; omega
  · intro p hp; rw [z] at hp; omega
  · rw [z]; omega
  · rw [z, z]; decide
  · intro p hp; rw [z] at hp; omega
  · intro p hp; rw [z] at hp; omega
  · rfl
  · intro i hi; exact absurd hi (Nat.not_lt_zero i)
  · intro i j hi; exact absurd hi (Nat.not_lt_zero i)
  · intro m _ _; rfl
  · rfl
/-- both begin to read -/
theorem L_start {b : Bool} {A B T tp : Nat → Nat} {n : Nat} {σc σm : zS} (hc : σc.2 = RC b) (hm : σm.2 = RM) (h9 : n ≤ 900) (ht : ∀ k, k < n → tp k < 256 ∧ σc.1 3 k = sbI (tp k) ∧ σm.1 1 k = nI (tp k)) (h13 : σm.1 0 13 = 0) : ∃ σ0 ρ0, fr (fun a k => a = 1 ∨ (a = 2 ∧ k ≠ 1) ∨ (4 ≤ a ∧ a ≤ 8) ∨ (Ld b ≤ a ∧ a ≤ Ld b + 18)) σc σ0 ∧ fr (fun a k => a = 2 ∨ a = 4 ∨ a = 6 ∨ (a = 0 ∧ 3 ≤ k ∧ k ≤ 8)) σm ρ0 ∧ σ0.1 1 3 = 0 ∧ EO b tp n σ0 ρ0 (f_X8_readFirst 1 (nI n) σc) (f_X11_letter_39 0 FU (nI n) 0 σm) := by
  have hv := Ld_v b
  have rs := RCs b
  obtain ⟨μ, u1, u2, u3, u4⟩ := M_39 hm (nI n)
  have hk : lK (Ld b) σc.2 := by rw [hc]; exact lK_d b
  obtain ⟨⟨⟩, ε, e1, e2, e3, e4⟩ := C_empty (b := b) (σ := σc) hk
  have r12 : σc.2 1 2 = Ld b := by rw [hc, rs.2.1]; cases b <;> rfl
  have r10 : σc.2 1 0 = 2 := by rw [hc]; simp only [RCs]
  have r11 : σc.2 1 1 = 4 := by rw [hc]; simp only [RCs]
  have r20 : σc.2 2 0 = 3 := by rw [hc]; simp only [RCs]
  obtain ⟨κ, hκ⟩ : ∃ κ, zpi (zpi (zpi (zpi (zpi ε 4 4 0) 1 3 0) 1 4 (-1)) 2 2 (nI n)) 2 4 0 = κ := ⟨_, rfl⟩
  obtain ⟨ν, hν⟩ : ∃ ν, zpi (zpi μ 0 3 (nI n)) 0 5 0 = ν := ⟨_, rfl⟩
  have fκ : fr (fun a k => (a = 1 ∧ (k = 3 ∨ k = 4)) ∨ (a = 2 ∧ (k = 2 ∨ k = 4)) ∨ (a = 4 ∧ k = 4) ∨ (Ld b ≤ a ∧ a ≤ Ld b + 18)) σc κ := by
    rw [← hκ]
    exact (((((e2.mo (fun _ _ z => by omega)).pi _ (by omega)).pi _ (by omega)).pi _ (by omega)).pi _ (by omega)).pi _ (by omega)
  have fκe : fr (fun a k => a ≤ 4) ε κ := by
    rw [← hκ]
    exact (((((fr_r _ ε).pi _ (by omega)).pi _ (by omega)).pi _ (by omega)).pi _ (by omega)).pi _ (by omega)
  have fν : fr (fun a k => a = 4 ∨ a = 6 ∨ (a = 0 ∧ (k = 3 ∨ k = 5))) σm ν := by
    rw [← hν]
    exact ((u1.mo (fun _ _ z => by omega)).pi _ (by omega)).pi _ (by omega)
  have κ13 : κ.1 1 3 = 0 := by rw [← hκ, zpi_ne _ _ (by omega), zpi_ne _ _ (by omega), zpi_ne _ _ (by omega), zpi_eq]
  have κ44 : κ.1 4 4 = 0 := by rw [← hκ, zpi_ne _ _ (by omega), zpi_ne _ _ (by omega), zpi_ne _ _ (by omega), zpi_ne _ _ (by omega), zpi_eq]
  have κ22 : κ.1 2 2 = nI n := by rw [← hκ, zpi_ne _ _ (by omega), zpi_eq]
  have κ24 : κ.1 2 4 = nI 0 := by rw [← hκ, zpi_eq]; rfl
  have ν3 : ν.1 0 3 = nI n := by rw [← hν, zpi_ne _ _ (by omega), zpi_eq]
  have ν5 : ν.1 0 5 = nI 0 := by rw [← hν, zpi_eq]; rfl
  have hTP : TP tp n κ ν := ⟨h9, κ22, ν3, fun k hk => ⟨(ht k hk).1, (fκ.2 3 k (by omega)).trans (ht k hk).2.1, (fν.2 1 k (by omega)).trans (ht k hk).2.2⟩⟩
  have hν4 : ∀ k, k < 195 → ν.1 4 k = 0 := fun k hk => by rw [← hν, zpi_ne _ _ (by omega), zpi_ne _ _ (by omega)]; exact u2 k hk
  have hν6 : ∀ k, k < 50 → ν.1 6 k = 0 := fun k hk => by rw [← hν, zpi_ne _ _ (by omega), zpi_ne _ _ (by omega)]; exact u3 k hk
  have hDT : DT b tp Fz Fz N0 κ ν := by
    refine ⟨fκ.1.trans hc, fν.1.trans hm, e3.f (fun a k z1 z2 => fκe.2 a k (by omega)), e4.f (fun a k z1 z2 => fκe.2 a k (by omega)), fun k hk => hν4 k (by omega), hν6, (fν.2 0 13 (by omega)).trans h13, ⟨κ44, fun i hi => absurd hi (Nat.not_lt_zero i)⟩, fun i hi => absurd hi (Nat.not_lt_zero i), fun l hl _ => hν4 _ (by omega)⟩
  obtain ⟨a, e, kd, τc, τm, n1, n2, n3, n4, n5, n6⟩ := N_next hTP (by rw [fκ.1]; exact r20) (fν.1.trans hm) (Nat.zero_le n) κ24 ν5
  have S : SS b tp n Fz Fz N0 a e kd τc τm := ⟨hTP.d (b := b) (n3.mo (PtC_d b)) (n4.mo PtM_d), n6, hDT.t n3 n4⟩
  have E := L_all S (VV_0 tp n) rfl ⟨rfl, rfl, rfl, rfl, rfl, rfl, rfl⟩
  refine ⟨τc, τm, (fκ.mo (fun _ _ z => by omega)).tr (n3.mo (fun x l z => by unfold PtC at z; omega)), (fν.mo (fun _ _ z => by omega)).tr (n4.mo (fun x l z => by unfold PtM at z; omega)), (n3.2 1 3 (by unfold PtC; omega)).trans κ13, ?_⟩
  have ec : f_X8_readFirst 1 (nI n) σc = zbd (f_X8_readHead 1 τc) (fun r24 σ25 => zlt r24 (fun v26 => zlt (0 : Int32) (fun v27 => f_X8_readFirst_40 1 FU v26 v27 σ25))) := by
    unfold f_X8_readFirst f_X9_start
    rw [zck_t k1, r12, zck_t hk.1, e1, zbd_s, e2.1, r11, zck_t k4, zlt_e, zlt_e, zlt_e, zpi_2, zpi_2, zpi_2, e2.1, r10, zck_t k2, zck_t k2, zlt_e, zlt_e, hκ, n1, zbd_s, zbd_s]
  have em : f_X11_letter_39 0 FU (nI n) 0 σm = zbd (f_X11_readLine 0 τm) (fun r24 σ25 => f_X11_letter_98 0 FU σ25) := by
    rw [u4, hν, n2, zbd_s]
  rw [ec, em]
  exact E
