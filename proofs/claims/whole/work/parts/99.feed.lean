/-! feed -/
def by4 (x : Int32) (j : Nat) : Nat := (x >>> (nI (24 - 8 * j) &&& 31)).toBitVec.toNat % 256
theorem by4_lt (x : Int32) (j : Nat) : by4 x j < 256 := Nat.mod_lt _ (by decide)
theorem byte_s (z : Int32) : vp_nar .byte (z.toInt8.toInt32) = sbI (z.toBitVec.toNat % 256) := by
  rw [pk_vb]
  apply Int32.toInt_inj.mp
  rw [Int8.toInt_toInt32, Int32.toInt_toInt8]
  have h1 : z.toInt = (z.toBitVec.toNat : Int) ∨ z.toInt = (z.toBitVec.toNat : Int) - 2 ^ 32 := by
    have : z.toInt = z.toBitVec.toInt := rfl
    rw [this, BitVec.toInt_eq_toNat_cond]
    split
    · exact Or.inl rfl
    · exact Or.inr rfl
  have h2 := Nat.mod_lt z.toBitVec.toNat (show 0 < 256 by decide)
  have h3 : (sbI (z.toBitVec.toNat % 256)).toInt = if z.toBitVec.toNat % 256 < 128 then ((z.toBitVec.toNat % 256 : Nat) : Int) else ((z.toBitVec.toNat % 256 : Nat) : Int) - 256 := by
    unfold sbI
    by_cases q : z.toBitVec.toNat % 256 < 128
    · rw [if_pos q, if_pos q, nI_toInt (by omega)]
    · rw [if_neg q, if_neg q]
      exact pk_sub_toInt (b := 256) (by omega) (by decide)
  rw [h3]
  have h4 : (2 : Nat) ^ 8 = 256 := by decide
  rw [h4]
  unfold Int.bmod
  rcases h1 with h1 | h1
  · rw [h1]
    by_cases q : z.toBitVec.toNat % 256 < 128
    · rw [if_pos q]
      have : ((z.toBitVec.toNat : Int) % ((256 : Nat) : Int)) = ((z.toBitVec.toNat % 256 : Nat) : Int) := by omega
      show (if (z.toBitVec.toNat : Int) % ((256 : Nat) : Int) < (((256 : Nat) : Int) + 1) / 2 then _ else _) = _
      rw [this, if_pos (by omega)]
    · rw [if_neg q]
      have : ((z.toBitVec.toNat : Int) % ((256 : Nat) : Int)) = ((z.toBitVec.toNat % 256 : Nat) : Int) := by omega
      show (if (z.toBitVec.toNat : Int) % ((256 : Nat) : Int) < (((256 : Nat) : Int) + 1) / 2 then _ else _) = _
      rw [this, if_neg (by omega)]
      rfl
  · rw [h1]
    by_cases q : z.toBitVec.toNat % 256 < 128
    · rw [if_pos q]
      have : (((z.toBitVec.toNat : Int) - 2 ^ 32) % ((256 : Nat) : Int)) = ((z.toBitVec.toNat % 256 : Nat) : Int) := by omega
      show (if ((z.toBitVec.toNat : Int) - 2 ^ 32) % ((256 : Nat) : Int) < (((256 : Nat) : Int) + 1) / 2 then _ else _) = _
      rw [this, if_pos (by omega)]
    · rw [if_neg q]
      have : (((z.toBitVec.toNat : Int) - 2 ^ 32) % ((256 : Nat) : Int)) = ((z.toBitVec.toNat % 256 : Nat) : Int) := by omega
      show (if ((z.toBitVec.toNat : Int) - 2 ^ 32) % ((256 : Nat) : Int) < (((256 : Nat) : Int) + 1) / 2 then _ else _) = _
      rw [this, if_neg (by omega)]
      rfl
theorem byte_u (z : Int32) : z &&& (255 : Int32) = nI (z.toBitVec.toNat % 256) := pk_and z 8 (by decide)
def Pa3 (n : Nat) (a k : Nat) : Prop := (a = 3 ∧ n ≤ k) ∨ (a = 2 ∧ k = 1)
theorem C_append {τ : zS} {n : Nat} (x : Int32) (r0 : τ.2 2 0 = 3) (h1 : τ.1 2 1 = nI n) (hn : n + 4 ≤ 900) : zH (f_X9_append 2 x τ) (fun _ σ' => fr (Pa3 n) τ σ' ∧ σ'.1 2 1 = nI (n + 4) ∧ ∀ j, j < 4 → σ'.1 3 (n + j) = sbI (by4 x j)) := by
  have k2 : WC.2 2 = (9, 0) := rfl
  have k3 : WC.2 3 = (101, 900) := rfl
  unfold f_X9_append
  refine zH_ck k2 (zH_lt ?_)
  have step : ∀ (g j : Nat) (υ : zS) (Q : Unit → zS → Prop), j < 4 → fr (Pa3 n) τ υ → υ.1 2 1 = nI (n + j) → (∀ i, i < j → υ.1 3 (n + i) = sbI (by4 x i)) → (∀ ω, fr (Pa3 n) τ ω → ω.1 2 1 = nI (n + (j + 1)) → (∀ i, i < j + 1 → ω.1 3 (n + i) = sbI (by4 x i)) → zH (f_X9_append_3 2 g x (nI (24 - 8 * j) + (-8)) ω) Q) → zH (f_X9_append_3 2 (g + 1) x (nI (24 - 8 * j)) υ) Q := by
    intro g j υ Q hj hF t1 t3 hQ
    rw [f_X9_append_3, t1, hF.1, r0, k3, nI_clamp (by omega)]
    refine zH_f (nI_pos (by omega)) (zH_f (show ¬ (900 : Int32) ≤ nI (n + j) from nI_ge (b := 900) (by omega) (by decide)) (zH_ck (zok_p (by omega) (by decide)) (zH_lt (zH_lt ?_))))
    unfold f_X9_append_40
    refine zH_lt ?_
    rw [zpi_ne _ _ (by omega), t1, nI_1, byte_s]
    refine hQ _ ((hF.pi _ (Or.inl ⟨rfl, by omega⟩)).pi _ (Or.inr ⟨rfl, rfl⟩)) (by rw [zpi_eq, Nat.add_assoc]) (fun i hi => ?_)
    rw [zpi_ne _ _ (by omega)]
    by_cases z : i = j
    · subst z; rw [zpi_eq]; rfl
    · rw [zpi_ne _ _ (by omega)]; exact t3 i (by omega)
  show zH (f_X9_append_3 2 (1995 + 1 + 1 + 1 + 1 + 1) x (nI (24 - 8 * 0)) τ) _
  refine step _ 0 τ _ (by omega) (fr_r _ τ) h1 (fun i hi => absurd hi (Nat.not_lt_zero i)) (fun ω a1 a2 a3 => ?_)
  rw [show nI (24 - 8 * 0) + (-8) = nI (24 - 8 * 1) from by decide]
  refine step _ 1 ω _ (by omega) a1 a2 a3 (fun ω a1 a2 a3 => ?_)
  rw [show nI (24 - 8 * 1) + (-8) = nI (24 - 8 * 2) from by decide]
  refine step _ 2 ω _ (by omega) a1 a2 a3 (fun ω a1 a2 a3 => ?_)
  rw [show nI (24 - 8 * 2) + (-8) = nI (24 - 8 * 3) from by decide]
  refine step _ 3 ω _ (by omega) a1 a2 a3 (fun ω a1 a2 a3 => ?_)
  rw [f_X9_append_3]
  exact zH_t (by decide) (zH_ok ⟨a1, a2, a3⟩)
def wd (x1 x2 x3 x4 x5 : Int32) (k : Nat) : Int32 := if k < 4 then x1 else if k < 8 then x2 else if k < 12 then x3 else if k < 16 then x4 else x5
theorem shf : ∀ k, k < 20 → (24 : Int32) - (8 : Int32) * (nI k - nI k / (4 : Int32) * (4 : Int32)) = nI (24 - 8 * (k % 4)) := by decide +kernel
def Pa1 (n : Nat) (a k : Nat) : Prop := (a = 1 ∧ n ≤ k) ∨ (a = 0 ∧ k = 2)
theorem M_feed {τ : zS} {n : Nat} (x1 x2 x3 x4 x5 : Int32) (hR : τ.2 = RM) (h1 : τ.1 0 2 = nI n) (hn : n + 20 ≤ 900) : zH (f_X11_feed_23 0 FU x1 x2 x3 x4 x5 0 τ) (fun r σ' => r = nI (n + 20) ∧ fr (Pa1 n) τ σ' ∧ σ'.1 0 2 = nI (n + 20) ∧ ∀ j, j < 20 → σ'.1 1 (n + j) = nI (by4 (wd x1 x2 x3 x4 x5 j) (j % 4))) := by
  suffices key : ∀ k, k ≤ 20 → ∀ f, 20 - k < f → ∀ υ, fr (Pa1 n) τ υ → υ.1 0 2 = nI (n + k) → (∀ j, j < k → υ.1 1 (n + j) = nI (by4 (wd x1 x2 x3 x4 x5 j) (j % 4))) → zH (f_X11_feed_23 0 f x1 x2 x3 x4 x5 (nI k) υ) (fun r σ' => r = nI (n + 20) ∧ fr (Pa1 n) τ σ' ∧ σ'.1 0 2 = nI (n + 20) ∧ ∀ j, j < 20 → σ'.1 1 (n + j) = nI (by4 (wd x1 x2 x3 x4 x5 j) (j % 4))) from key 0 (Nat.zero_le _) FU (by unfold FU; omega) τ (fr_r _ τ) h1 (fun j hj => absurd hj (Nat.not_lt_zero j))
  refine zup (P := fun f k => ∀ υ, fr (Pa1 n) τ υ → υ.1 0 2 = nI (n + k) → (∀ j, j < k → υ.1 1 (n + j) = nI (by4 (wd x1 x2 x3 x4 x5 j) (j % 4))) → zH (f_X11_feed_23 0 f x1 x2 x3 x4 x5 (nI k) υ) _) 20 ?_ ?_
  · intro f υ hF t2 t1
    rw [f_X11_feed_23, t2]
    exact zH_t (by decide) (zH_ok ⟨rfl, hF, t2, t1⟩)
  · intro f k hk ih υ hF t2 t1
    have hRu : υ.2 = RM := hF.1.trans hR
    have put : zH (f_X11_feed_76 0 (f_X11_feed_23 0 f) x1 x2 x3 x4 x5 (nI k) (wd x1 x2 x3 x4 x5 k) υ) (fun r σ' => r = nI (n + 20) ∧ fr (Pa1 n) τ σ' ∧ σ'.1 0 2 = nI (n + 20) ∧ ∀ j, j < 20 → σ'.1 1 (n + j) = nI (by4 (wd x1 x2 x3 x4 x5 j) (j % 4))) := by
      unfold f_X11_feed_76
      refine zH_lt ?_
      rw [mr1 hRu, w1, t2, nI_clamp (by omega), shf k hk, byte_u]
      refine zH_ck (by decide) (zH_ck (zok_p (by omega) (by decide)) (zH_lt (zH_lt (zH_lt ?_))))
      rw [zpi_ne _ _ (by omega), t2, nI_1, nI_1]
      refine ih _ ((hF.pi _ (Or.inl ⟨rfl, by omega⟩)).pi _ (Or.inr ⟨rfl, rfl⟩)) (by rw [zpi_eq, Nat.add_assoc]) (fun j hj => ?_)
      rw [zpi_ne _ _ (by omega)]
      by_cases z : j = k
      · subst z; rw [zpi_eq]; rfl
      · rw [zpi_ne _ _ (by omega)]; exact t1 j (by omega)
    rw [f_X11_feed_23]
    refine zH_f (show ¬ (20 : Int32) ≤ nI k from nI_ge (b := 20) hk (by decide)) ?_
    unfold wd at put
    by_cases q1 : k < 4
    · rw [if_pos q1] at put
      exact zH_f (show ¬ (4 : Int32) ≤ nI k from nI_ge (b := 4) q1 (by decide)) put
    · rw [if_neg q1] at put
      refine zH_t (show (4 : Int32) ≤ nI k from nI_le (a := 4) (by omega) (by omega)) ?_
      by_cases q2 : k < 8
      · rw [if_pos q2] at put
        exact zH_f (show ¬ (8 : Int32) ≤ nI k from nI_ge (b := 8) q2 (by decide)) put
      · rw [if_neg q2] at put
        refine zH_t (show (8 : Int32) ≤ nI k from nI_le (a := 8) (by omega) (by omega)) ?_
        by_cases q3 : k < 12
        · rw [if_pos q3] at put
          exact zH_f (show ¬ (12 : Int32) ≤ nI k from nI_ge (b := 12) q3 (by decide)) put
        · rw [if_neg q3] at put
          refine zH_t (show (12 : Int32) ≤ nI k from nI_le (a := 12) (by omega) (by omega)) ?_
          by_cases q4 : k < 16
          · rw [if_pos q4] at put
            exact zH_f (show ¬ (16 : Int32) ≤ nI k from nI_ge (b := 16) q4 (by decide)) put
          · rw [if_neg q4] at put
            exact zH_t (show (16 : Int32) ≤ nI k from nI_le (a := 16) (by omega) (by omega)) put
theorem O_feed : zO_feed Rel := by
  intro σc σm x1 x2 x3 x4 x5 hR
  have hn0 := hR.n
  obtain ⟨b, A, B, T, hA, hB, hT, hc, hm, h6, h7, h8, h9⟩ := hR
  obtain ⟨g1, ⟨n, tp, a1, a2, a3, a4⟩, ni, nu, hi, hp, hz⟩ := h6
  have r0 : σc.2 0 0 = 1 := by rw [hc.1]; simp only [RCs]
  have r10 : σc.2 1 0 = 2 := by rw [hc.1]; simp only [RCs]
  have r20 : σc.2 2 0 = 3 := by rw [hc.1]; simp only [RCs]
  have k1 : WC.2 1 = (8, 0) := rfl
  have k2 : WC.2 2 = (9, 0) := rfl
  have m2 : (zpi σm 0 0 0).1 0 2 = nI n := by rw [zpi_ne _ _ (by omega)]; exact a3
  have e20 : nI n + (20 : Int32) = nI (n + 20) := nI_add n 20
  by_cases q : n + 20 ≤ 900
  · obtain ⟨u1, s1, e1, f1, t1, b1⟩ := C_append (τ := σc) x1 r20 a2 (by omega)
    obtain ⟨u2, s2, e2, f2, t2, b2⟩ := C_append (τ := s1) x2 (by rw [f1.1]; exact r20) t1 (by omega)
    obtain ⟨u3, s3, e3, f3, t3, b3⟩ := C_append (τ := s2) x3 (by rw [f2.1, f1.1]; exact r20) t2 (by omega)
    obtain ⟨u4, s4, e4, f4, t4, b4⟩ := C_append (τ := s3) x4 (by rw [f3.1, f2.1, f1.1]; exact r20) t3 (by omega)
    obtain ⟨u5, s5, e5, f5, t5, b5⟩ := C_append (τ := s4) x5 (by rw [f4.1, f3.1, f2.1, f1.1]; exact r20) t4 (by omega)
    obtain ⟨r, s6, e6, rfl, f6, t6, b6⟩ := M_feed x1 x2 x3 x4 x5 (τ := zpi σm 0 0 0) hm.1 m2 q
    have hC : f_X10_feed 0 x1 x2 x3 x4 x5 σc = some (nI (n + 20), s5) := by
      unfold f_X10_feed
      rw [zck_t v0, r0, zck_t k1, r10, zlt_e, zck_t k2, a2, e20, zbr_t (show nI (n + 20) ≤ (900 : Int32) from nI_le (b := 900) q (by decide)), e1, zbd_s, e2, zbd_s, e3, zbd_s, e4, zbd_s, e5, zbd_s, t5]
    have hM : f_X11_feed 0 x1 x2 x3 x4 x5 σm = some (nI (n + 20), s6) := by
      unfold f_X11_feed
      rw [zck_t w0, zlt_e, m2, e20, zbr_t (show nI (n + 20) ≤ (900 : Int32) from nI_le (b := 900) q (by decide)), zlt_e, e6]
    have fc : ∀ a k, ¬ (a = 3 ∧ n ≤ k) → ¬ (a = 2 ∧ k = 1) → s5.1 a k = σc.1 a k := fun a k z1 z2 => by
      rw [f5.2 a k (by unfold Pa3; omega), f4.2 a k (by unfold Pa3; omega), f3.2 a k (by unfold Pa3; omega), f2.2 a k (by unfold Pa3; omega), f1.2 a k (by unfold Pa3; omega)]
    have fm : ∀ a k, ¬ (a = 1 ∧ n ≤ k) → ¬ (a = 0 ∧ (k = 0 ∨ k = 2)) → s6.1 a k = σm.1 a k := fun a k z1 z2 => by
      rw [f6.2 a k (by unfold Pa1; omega), zpi_ne _ _ (by omega)]
    have hs5 : s5.2 = σc.2 := by rw [f5.1, f4.1, f3.1, f2.1, f1.1]
    refine ⟨_, s5, s6, hC, hM, b, A, B, T, hA, hB, hT, hc.g hs5 (fun a k z => fc a k (by omega) (by omega)), ⟨f6.1.trans hm.1, fun k hk => (fm 3 k (by omega) (by omega)).trans (hm.2.1 k hk), fun k hk => (fm 7 k (by omega) (by omega)).trans (hm.2.2.1 k hk), fun k hk => (fm 5 k (by omega) (by omega)).trans (hm.2.2.2.1 k hk), (fm 0 24 (by omega) (by omega)).trans hm.2.2.2.2.1, (fm 0 14 (by omega) (by omega)).trans hm.2.2.2.2.2⟩, ?_, h7.f (fun a k _ _ => fc a k (by omega) (by omega)), ?_, ?_⟩
    · have hrest : Rest A B s5.1 s6.1 ↔ s5.1 0 11 = s6.1 0 9 ∧ Tape s5.1 s6.1 ∧ ∃ ni nu, Imgs A ni s5.1 s6.1 ∧ Past A B nu s5.1 s6.1 ∧ (A 1 = 0 → ni = 0 ∧ nu = 0) := Iff.rfl
      obtain ⟨i1, i2, i3, M, i4⟩ := hi
      obtain ⟨p1, p2, p3, U, p4, p5⟩ := hp
      refine hrest.mpr ⟨?_, ⟨n + 20, fun k => if k < n then tp k else by4 (wd x1 x2 x3 x4 x5 (k - n)) ((k - n) % 4), q, t5, t6, fun k hk => ?_⟩, ni, nu, ⟨i1, ?_, ?_, M, fun r hr => ?_⟩, ⟨p1, ?_, ?_, U, p4, fun r hr => ?_⟩, hz⟩
      · rw [fc 0 11 (by omega) (by omega), fm 0 9 (by omega) (by omega)]; exact g1
      · show (if k < n then tp k else by4 (wd x1 x2 x3 x4 x5 (k - n)) ((k - n) % 4)) < 256 ∧ s5.1 3 k = sbI (if k < n then tp k else by4 (wd x1 x2 x3 x4 x5 (k - n)) ((k - n) % 4)) ∧ s6.1 1 k = nI (if k < n then tp k else by4 (wd x1 x2 x3 x4 x5 (k - n)) ((k - n) % 4))
        by_cases z : k < n
        · rw [if_pos z, fc 3 k (by omega) (by omega), fm 1 k (by omega) (by omega)]
          exact a4 k z
        · rw [if_neg z]
          obtain ⟨j, rfl⟩ : ∃ j, k = n + j := ⟨k - n, by omega⟩
          rw [Nat.add_sub_cancel_left]
          refine ⟨by4_lt _ _, ?_, b6 j (by omega)⟩
          unfold wd
          by_cases q1 : j < 4
          · rw [if_pos q1, Nat.mod_eq_of_lt q1, f5.2 3 _ (by unfold Pa3; omega), f4.2 3 _ (by unfold Pa3; omega), f3.2 3 _ (by unfold Pa3; omega), f2.2 3 _ (by unfold Pa3; omega)]
            exact b1 j q1
          · rw [if_neg q1]
            by_cases q2 : j < 8
            · rw [if_pos q2, f5.2 3 _ (by unfold Pa3; omega), f4.2 3 _ (by unfold Pa3; omega), f3.2 3 _ (by unfold Pa3; omega)]
              have := b2 (j - 4) (by omega)
              rw [show n + 4 + (j - 4) = n + j by omega, show j - 4 = j % 4 by omega] at this
              exact this
            · rw [if_neg q2]
              by_cases q3 : j < 12
              · rw [if_pos q3, f5.2 3 _ (by unfold Pa3; omega), f4.2 3 _ (by unfold Pa3; omega)]
                have := b3 (j - 8) (by omega)
                rw [show n + 4 + 4 + (j - 8) = n + j by omega, show j - 8 = j % 4 by omega] at this
                exact this
              · rw [if_neg q3]
                by_cases q4 : j < 16
                · rw [if_pos q4, f5.2 3 _ (by unfold Pa3; omega)]
                  have := b4 (j - 12) (by omega)
                  rw [show n + 4 + 4 + 4 + (j - 12) = n + j by omega, show j - 12 = j % 4 by omega] at this
                  exact this
                · rw [if_neg q4]
                  have := b5 (j - 16) (by omega)
                  rw [show n + 4 + 4 + 4 + 4 + (j - 16) = n + j by omega, show j - 16 = j % 4 by omega] at this
                  exact this
      · rw [fc 0 9 (by omega) (by omega)]; exact i2
      · rw [fm 0 23 (by omega) (by omega)]; exact i3
      · obtain ⟨o1, o2, o3⟩ := i4 r hr
        exact ⟨o1, o2.f (fun a k _ _ => fc a k (by omega) (by omega)), fun k hk => by rw [fm 9 _ (by omega) (by omega)]; exact o3 k hk⟩
      · rw [fc 57 2 (by omega) (by omega)]; exact p2
      · rw [fm 0 22 (by omega) (by omega)]; exact p3
      · obtain ⟨o1, o2, kd, w, o3, o4, o5⟩ := p5 r hr
        exact ⟨o1, fun k hk => by rw [fm 8 _ (by omega) (by omega)]; exact o2 k hk, kd, w, by rw [fc 58 _ (by omega) (by omega)]; exact o3, by rw [fc 59 _ (by omega) (by omega)]; exact o4, o5⟩
    · rw [fc 0 10 (by omega) (by omega), fm 0 11 (by omega) (by omega)]; exact h8
    · rw [fc 0 10 (by omega) (by omega), fc 0 12 (by omega) (by omega), fm 0 10 (by omega) (by omega)]; exact h9
  · refine ⟨-1, σc, zpi σm 0 0 0, ?_, ?_, hn0⟩
    · unfold f_X10_feed
      rw [zck_t v0, r0, zck_t k1, r10, zlt_e, zck_t k2, a2, e20, zbr_f (show ¬ nI (n + 20) ≤ (900 : Int32) from nI_ge (a := 900) (by omega) (by omega))]
    · unfold f_X11_feed
      rw [zck_t w0, zlt_e, m2, e20, zbr_f (show ¬ nI (n + 20) ≤ (900 : Int32) from nI_ge (a := 900) (by omega) (by omega))]
