/-! lines: over and done, on both sides -/
section LD2
variable {b : Bool} {tp F R : Nat → Nat} {n a e kd : Nat} {N : nT} {σc σm : zS}
theorem cl5 : ((5 : Int32).toNatClampNeg) = 5 := rfl
theorem cl7 : ((7 : Int32).toNatClampNeg) = 7 := rfl
theorem m11 : (-1 : Int32) = -1 := rfl
theorem L_over {a0 e0 kd0 : Nat} {σ0 ρ0 : zS} (h0 : SS b tp n F R N a0 e0 kd0 σ0 ρ0) (V : VV tp n F R N) (h9 : F 9 = 1) (nx : f_X9_next 2 σ0 = some ((), σc)) (ad : Adv b tp n F R N e0 σ0 ρ0 a e kd σc σm) (hb : F 2 < 6) : OC b tp n e0 σ0 ρ0 (f_X8_readOver 1 σ0) (f_X11_overLine 0 σm) := by
  obtain ⟨r10, r12, -, -, kL⟩ := h0.q
  have hS := ad.1
  obtain ⟨-, -, hR, h13, -⟩ := hS.q
  have hv := Ld_v b
  obtain ⟨v0, v1, v2, v3, v4, v6, v8⟩ := V.1.1
  have hb3 : F 1 ≤ 6 ∧ F 3 ≤ 4 ∧ F 4 ≤ 4 := ⟨v1, v3, v4⟩
  have hr : ∀ k, k < F 2 → F (22 + 2 * k) < 1000 ∧ F (23 + 2 * k) < 1000 := fun k hk => by have := V.1.2.2.2.1 k hk; omega
  apply OC_c
  · unfold f_X8_readOver
    rw [zck_t k1, r12, zck_t kL, zlt_e, h0.g.1.2.2.1, zbr_t (show nI (F 2) < (6 : Int32) from nI_lt (b := 6) hb (by decide)), r10, zck_t k2, nx, zbd_s]
  apply OC_m
  · unfold f_X11_overLine
    rw [zck_t w0, zbr_t h13, mr16 hR, w4, zck_t (by decide), cl2, hS.r4 2 (by omega), px22, zlt_e]
  rcases P_pl hS V.2.2.1 hb3 with ⟨p, a1, e1, kd1, c1, m1, p0, p1, p2, p3⟩ | ⟨f, f1, f2, p1, p2⟩
  · have S1 := p3.1
    have fC1 := ad.c.tr p3.c
    have fM1 := ad.m.tr p3.m
    obtain ⟨g10, g12, gR, g13, -⟩ := S1.q
    rw [p2, zbd_s, zlt_e, p1, zbd_s, zlt_e, zbr_f (nI_m1 (by omega)), g10, zck_t k2, S1.2.1.2.1.1, zlt_e]
    rcases P_name S1 V.2.2.1 hb3 (s := 2) (Or.inl rfl) with ⟨q, a2, e2, kd2, c2, m2, q0, q1, q2, q3, q4⟩ | ⟨f, f1, f2, q1, q2⟩
    · have q0 : q < F 1 := q0
      have q1 : f_X8_passName 1 (2 : Int32) c1 = some (nI q, c2) := q1
      have q2 : f_X11_named 0 (0 : Int32) (5 : Int32) m1 = some (nI q, m1) := q2
      have S2 := q4.1
      have fC2 := fC1.tr q4.c
      have fM2 := fM1.tr q4.m
      obtain ⟨i10, i12, iR, i13, -⟩ := S2.q
      have hk := S2.2.2.k
      rw [q2, zbd_s, zlt_e, q1, zbd_s, zlt_e, zbr_f (nI_m1 (by omega))]
      have bad : f_X8_readOver_82 1 (nI a1) c2 = some (0, bl c2 (nI 3) (nI a1)) := by
        unfold f_X8_readOver_82
        rw [C_blameAt, zbd_s]; rfl
      have m47 := fun t => M_47 gR g13 S1.r4 hb hr (p := p) (q := q) (by omega) (by omega) (nI (22 + 2 * F 2)) (nI a1) S1.2.1.2.2.1.1 t
      by_cases epq : p = q
      · refine OC_bad (f := 3) (y := nI a1) (τm := wr m1 3 (nI a1)) (by omega) (by omega) ?_ ?_ (BC_w fC2 _ _) (BM_w fM1 _ _)
        · rw [zbr_t (by rw [epq]), bad]
        · rw [zbr_t (by rw [epq])]
          exact (m47 true).1 rfl
      · have npq : ¬ nI p = nI q := fun z => epq ((nI_eq (by omega) (by omega)).mp z)
        rw [zbr_f npq, zbr_f npq, i12, zck_t kL, C_hasOver hk S2.g (by omega) hr (by omega) (by omega), zbd_s]
        cases ea : an (ovT F p q) (F 2) with
        | true =>
          refine OC_bad (f := 3) (y := nI a1) (τm := wr m1 3 (nI a1)) (by omega) (by omega) ?_ ((m47 false).1 ea) (BC_w fC2 _ _) (BM_w fM1 _ _)
          rw [zbr_f (c := bI true = 0) (by decide), bad]
        | false =>
          have hd : ∀ k, k < F 2 → ¬ (F (22 + 2 * k) = p ∧ F (23 + 2 * k) = q) ∧ ¬ (F (22 + 2 * k) = q ∧ F (23 + 2 * k) = p) := by
            intro k hk
            have ot : ovT F p q k = false := by
              cases y : ovT F p q k with
              | false => rfl
              | true => exact absurd ((an_iff.mpr ⟨k, hk, y⟩).symm.trans ea) (by decide)
            refine ⟨fun z => ?_, fun z => ?_⟩
            · rw [show ovT F p q k = true by unfold ovT; simp [z.1, z.2]] at ot; exact absurd ot (by decide)
            · rw [show ovT F p q k = true by unfold ovT; simp [z.1, z.2]] at ot; exact absurd ot (by decide)
          refine OC_m ((m47 false).2 ea) ?_
          have SA : SS b tp n (uF F (22 + 2 * F 2) p) R N a2 e2 kd2 (zpi c2 (Ld b + 3) (F 2) (nI p)) (zpi m2 4 (22 + 2 * F 2) (nI p)) :=
            S2.u ((fr_r _ _).pi _ (by omega)) ((fr_r _ _).pi _ (by omega)) (S2.g.j (a0 := Ld b + 3) (k0 := F 2) ⟨fun k hk => by omega, fun p hp => by omega, fun p hp => by omega, fun p hp => by omega, fun p hp => by omega, fun p hp => by omega, fun p hp => by omega⟩ ⟨fun l hl => by omega, by omega, fun p hp => by omega, fun p hp => by omega, fun p hp => by omega, fun p hp => by omega, fun p hp => by omega, fun p hp => by omega⟩ (fun x l z => zpi_ne _ _ z)) (S2.p.f (fun x l _ _ => zpi_ne _ _ (by omega))) (upR S2.r4 _ _) (fun l hl => (zpi_ne _ _ (by omega)).trans (S2.r6 l hl))
          have E1 : uF F (22 + 2 * F 2) p 1 = F 1 := upN (by omega)
          have E2 : uF F (22 + 2 * F 2) p 2 = F 2 := upN (by omega)
          have E3 : uF F (22 + 2 * F 2) p 3 = F 3 := upN (by omega)
          have E4 : uF F (22 + 2 * F 2) p 4 = F 4 := upN (by omega)
          have E6 : uF F (22 + 2 * F 2) p 6 = F 6 := upN (by omega)
          have E8 : uF F (22 + 2 * F 2) p 8 = F 8 := upN (by omega)
          have SB : SS b tp n (uF (uF F (22 + 2 * F 2) p) (23 + 2 * F 2) q) R N a2 e2 kd2 (zpi (zpi c2 (Ld b + 3) (F 2) (nI p)) (Ld b + 4) (F 2) (nI q)) (zpi (zpi m2 4 (22 + 2 * F 2) (nI p)) 4 (23 + 2 * F 2) (nI q)) :=
            SA.u ((fr_r _ _).pi _ (by omega)) ((fr_r _ _).pi _ (by omega)) (SA.g.j (a0 := Ld b + 4) (k0 := F 2) (by
              unfold jk
              rw [E1, E2, E3, E4, E6, E8]
              exact ⟨fun k hk => by omega, fun p hp => by omega, fun p hp => by omega, fun p hp => by omega, fun p hp => by omega, fun p hp => by omega, fun p hp => by omega⟩) (by
              unfold jc
              rw [E1, E2, E3, E4, E6, E8]
              exact ⟨fun l hl => by omega, by omega, fun p hp => by omega, fun p hp => by omega, fun p hp => by omega, fun p hp => by omega, fun p hp => by omega, fun p hp => by omega⟩) (fun x l z => zpi_ne _ _ z)) (SA.p.f (fun x l _ _ => zpi_ne _ _ (by omega))) (upR SA.r4 _ _) (fun l hl => (zpi_ne _ _ (by omega)).trans (SA.r6 l hl))
          have F2 : uF (uF F (22 + 2 * F 2) p) (23 + 2 * F 2) q 2 = F 2 := (upN (by omega)).trans E2
          have F3 : uF (uF F (22 + 2 * F 2) p) (23 + 2 * F 2) q (22 + 2 * F 2) = p := (upN (by omega)).trans upE
          have F4 : uF (uF F (22 + 2 * F 2) p) (23 + 2 * F 2) q (23 + 2 * F 2) = q := upE
          have SC : SS b tp n (uF (uF (uF F (22 + 2 * F 2) p) (23 + 2 * F 2) q) 2 (uF (uF F (22 + 2 * F 2) p) (23 + 2 * F 2) q 2 + 1)) R N a2 e2 kd2 (zpi (zpi (zpi c2 (Ld b + 3) (F 2) (nI p)) (Ld b + 4) (F 2) (nI q)) (Ld b) 11 (nI (uF (uF F (22 + 2 * F 2) p) (23 + 2 * F 2) q 2 + 1))) (zpi (zpi (zpi m2 4 (22 + 2 * F 2) (nI p)) 4 (23 + 2 * F 2) (nI q)) 4 2 (nI (uF (uF F (22 + 2 * F 2) p) (23 + 2 * F 2) q 2 + 1))) :=
            SB.u ((fr_r _ _).pi _ (by omega)) ((fr_r _ _).pi _ (by omega)) (SB.g.c2 (fun x l z => zpi_ne _ _ z) (zpi_eq _ _ _ _) (by
              rw [F2, F3, F4]
              exact ⟨(zpi_ne _ _ (by omega)).trans (zpi_eq _ _ _ _), zpi_eq _ _ _ _⟩)) (SB.p.f (fun x l _ _ => zpi_ne _ _ (by omega))) (upR SB.r4 _ _) (fun l hl => (zpi_ne _ _ (by omega)).trans (SB.r6 l hl))
          refine Or.inl ⟨_, R, _, a2, e2, kd2, _, _, ?_, ?_, SC, V.over (p := p) (q := q) hb ?_ ?_ ?_ (fun l z1 z2 z3 => ?_) p0 q0 epq hd, ?_, ?_, ?_, ?_⟩
          · rw [zbr_t (c := bI false = 0) rfl, i12, zck_t kL, hk.2.1.2.2.1, hk.2.2.1.2.2.1, zck_t (zok_p hb (by decide)), zlt_e, nI_clamp (by omega), zpi_2, i12, zck_t kL, hk.2.1.2.2.2.1, hk.2.2.1.2.2.2.1, zck_t (zok_p hb (by decide)), zlt_e, zpi_2, zpi_2, i12, zck_t kL, SB.g.1.2.2.1, zlt_e, nI_1]; rfl
          · unfold f_X11_overLine_151
            rw [q3, zbd_s, zbr_t i13, mr16 iR, w4, zck_t (zok_p (by omega) (by decide)), zlt_e, nI_clamp (by omega), zpi_2, mr16 iR, w4, nI_1, zck_t (zok_p (by omega) (by decide)), zlt_e, nI_clamp (by omega), show 22 + 2 * F 2 + 1 = 23 + 2 * F 2 by omega, zpi_2, zpi_2, mr16 iR, w4, zck_t (by decide), zck_t (by decide), cl2, SB.r4 2 (by omega), zlt_e, nI_1]
          · rw [upE, F2]
          · rw [upN (by omega), F3]
          · rw [upN (by omega), F4]
          · rw [upN z1, upN z3, upN z2]
          · rw [upN (by omega), upN (by omega), upN (by omega), h9]
          · exact fC2.tr (pc_d ((((fr_r (fun x _ => Ld b ≤ x ∧ x ≤ Ld b + 18) c2).pi (a := Ld b + 3) (k := F 2) (nI p) (by omega)).pi (a := Ld b + 4) (k := F 2) (nI q) (by omega)).pi _ (by omega)))
          · exact fM2.tr (pm_d ((((fr_r (fun x k => x = 6 ∨ (x = 4 ∧ k < 69)) m2).pi (a := 4) (k := 22 + 2 * F 2) (nI p) (by omega)).pi (a := 4) (k := 23 + 2 * F 2) (nI q) (by omega)).pi _ (by omega)))
          · have := ad.2.2.2
            have := hS.2.1.1.1
            have := p3.2.2.2
            have := S1.2.1.1.1
            have := q4.2.2.2
            omega
    · have q1 : f_X8_passName 1 (2 : Int32) c1 = some (-1, bl c1 (nI f) (nI a1)) := q1
      have q2 : f_X11_named 0 (0 : Int32) (5 : Int32) m1 = some (0, wr m1 (nI f) (nI a1)) := q2
      have mf := fun s0 => Mf_42 (F := F) (τ := wr m1 (nI f) (nI a1)) gR (wr_13 _ _ _) ((wr_4 _ _ _ _).trans (S1.r4 2 (by omega))) hb (nI (22 + 2 * F 2)) (nI p) 0 s0
      refine OC_bad (f := f) (y := nI a1) f1 f2 ?_ ?_ (BC_w fC1 _ _) (BM_w fM1 _ _)
      · rw [q1, zbd_s, zlt_e, zbr_t m11]; rfl
      · rw [q2, zbd_s, zlt_e, mf, mf]
        by_cases z : nI p = 0
        · rw [zbr_t z]
        · rw [zbr_f z]
  · have mf := fun s0 => Mf_42 (F := F) (τ := wr σm (nI f) (nI a)) hR (wr_13 _ _ _) ((wr_4 _ _ _ _).trans (hS.r4 2 (by omega))) hb (nI (22 + 2 * F 2)) 0 0 s0
    refine OC_bad (f := f) (y := nI a) f1 f2 ?_ ?_ (BC_w ad.c _ _) (BM_w ad.m _ _)
    · rw [p1, zbd_s, zlt_e, zbr_t m11]; rfl
    · rw [p2, zbd_s, zlt_e, Mf_named (wr_13 _ _ _), zbd_s, zlt_e, mf, mf, zbr_t (c := (0 : Int32) = 0) rfl]
theorem tI_m1z {x : Nat} (h : x ≤ 4) (h2 : x ≠ 2) : tI x = -1 ↔ x = 0 := by
  have : x = 0 ∨ x = 1 ∨ x = 3 ∨ x = 4 := by omega
  rcases this with rfl | rfl | rfl | rfl
  · exact ⟨fun _ => rfl, fun _ => rfl⟩
  · exact ⟨fun z => absurd z (by decide), fun z => absurd z (by decide)⟩
  · exact ⟨fun z => absurd z (by decide), fun z => absurd z (by decide)⟩
  · exact ⟨fun z => absurd z (by decide), fun z => absurd z (by decide)⟩
/-- what is told of a matter, and the count of it -/
theorem L_told {a0 e0 kd0 : Nat} {σ0 ρ0 : zS} (V : VV tp n F R N) (h9 : F 9 = 1) (S : SS b tp n F R N a e kd σc σm) (fC : fr (PCd b) σ0 σc) (fM : fr PMd ρ0 σm) (hl : e0 ≤ a) {m d : Nat} {s : Int32} (hm : m < F 4) (h0 : F (41 + m) = 0) (hd : d = 1 ∨ d = 3 ∨ d = 4) (es : tI d = s) (ed : s + 3 = nI d) (υ : zS) (hn : f_X9_next 2 υ = some ((), σc)) (hυ : υ.2 1 0 = 2) : OC b tp n e0 σ0 ρ0 (f_X8_readDone_69 1 (nI m) s υ) (f_X11_doneLine_68 0 (nI m) s σm) := by
  have hv := Ld_v b
  obtain ⟨v0, v1, v2, v3, v4, v6, v8⟩ := V.1.1
  obtain ⟨i10, i12, iR, i13, kL⟩ := S.q
  have hk := S.2.2.k
  have hs1 : ¬ s = -1 := fun z => by
    have := (tI_m1z (x := d) (by omega) (by omega)).mp (es.trans z)
    omega
  have SA : SS b tp n (uF F (41 + m) d) R N a e kd (zpi σc (Ld b + 6) m s) (zpi σm 4 (41 + m) (nI d)) :=
    S.u ((fr_r _ _).pi _ (by omega)) ((fr_r _ _).pi _ (by omega)) (S.g.t (by omega) ⟨v1, v2, v3, v6⟩ (fun x l z => zpi_ne _ _ z) ((zpi_eq _ _ _ _).trans es.symm)) (S.p.f (fun x l _ _ => zpi_ne _ _ (by omega))) (upR S.r4 _ _) (fun l hl => (zpi_ne _ _ (by omega)).trans (S.r6 l hl))
  have F2 : uF F (41 + m) d 7 = F 7 := upN (by omega)
  have SB : SS b tp n (uF (uF F (41 + m) d) 7 (uF F (41 + m) d 7 + 1)) R N a e kd (zpi (zpi σc (Ld b + 6) m s) (Ld b) 15 (nI (uF F (41 + m) d 7 + 1))) (zpi (zpi σm 4 (41 + m) (nI d)) 4 7 (nI (uF F (41 + m) d 7 + 1))) :=
    SA.u ((fr_r _ _).pi _ (by omega)) ((fr_r _ _).pi _ (by omega)) (SA.g.c7 (fun x l z => zpi_ne _ _ z) (zpi_eq _ _ _ _)) (SA.p.f (fun x l _ _ => zpi_ne _ _ (by omega))) (upR SA.r4 _ _) (fun l hl => (zpi_ne _ _ (by omega)).trans (SA.r6 l hl))
  refine Or.inl ⟨_, R, _, a, e, kd, _, _, ?_, ?_, SB, V.done (m := m) (v := d) hm ?_ ?_ (fun l z1 z2 => ?_) h0 hd, ?_, ?_, ?_, hl⟩
  · unfold f_X8_readDone_69
    rw [zlt_e, zbr_f hs1, hυ, zck_t k2, hn, zbd_s, i12, zck_t kL, hk.2.1.2.2.2.2.2.1, hk.2.2.1.2.2.2.2.2.1, zck_t (zok_p (by omega) (by decide)), zlt_e, nI_clamp (by omega), zpi_2, i12, zck_t kL, SA.g.1.2.2.2.2.2.2.1, zlt_e, nI_1]; rfl
  · unfold f_X11_doneLine_68
    rw [zlt_e, zbr_t i13, mr16 iR, w4, px41, zck_t (zok_p (by omega) (by decide)), zlt_e, nI_clamp (by omega), ed, zpi_2, mr16 iR, w4, zck_t (by decide), zck_t (by decide), cl7, SA.r4 7 (by omega), zlt_e, nI_1]
  · rw [upE, F2]
  · rw [upN (by omega), upE]
  · rw [upN z1, upN z2]
  · rw [upN (by omega), upN (by omega), h9]
  · exact fC.tr (pc_d (((fr_r (fun x _ => Ld b ≤ x ∧ x ≤ Ld b + 18) σc).pi (a := Ld b + 6) (k := m) s (by omega)).pi _ (by omega)))
  · exact fM.tr (pm_d (((fr_r (fun x k => x = 6 ∨ (x = 4 ∧ k < 69)) σm).pi (a := 4) (k := 41 + m) (nI d) (by omega)).pi _ (by omega)))
theorem L_done {a0 e0 kd0 : Nat} {σ0 ρ0 : zS} (h0 : SS b tp n F R N a0 e0 kd0 σ0 ρ0) (V : VV tp n F R N) (h9 : F 9 = 1) (nx : f_X9_next 2 σ0 = some ((), σc)) (ad : Adv b tp n F R N e0 σ0 ρ0 a e kd σc σm) : OC b tp n e0 σ0 ρ0 (f_X8_readDone 1 σ0) (f_X11_doneLine 0 σm) := by
  obtain ⟨r10, r12, -, -, kL⟩ := h0.q
  have hS := ad.1
  obtain ⟨-, -, hR, h13, -⟩ := hS.q
  have hv := Ld_v b
  obtain ⟨v0, v1, v2, v3, v4, v6, v8⟩ := V.1.1
  have hb3 : F 1 ≤ 6 ∧ F 3 ≤ 4 ∧ F 4 ≤ 4 := ⟨v1, v3, v4⟩
  obtain ⟨s10, s12, -, -, -⟩ := hS.q
  apply OC_c
  · unfold f_X8_readDone
    rw [zck_t k1, r10, zck_t k2, nx, zbd_s, s10, zck_t k2, hS.2.1.2.1.1, zlt_e]
  apply OC_m
  · unfold f_X11_doneLine
    rw [zck_t w0, zbr_t h13]
  rcases P_name hS V.2.2.1 hb3 (s := 5) (Or.inr (Or.inr rfl)) with ⟨m, a1, e1, kd1, c1, m1, p0, p1, p2, p3, p4⟩ | ⟨f, f1, f2, p1, p2⟩
  · have p0 : m < F 4 := p0
    have p1 : f_X8_passName 1 (5 : Int32) σc = some (nI m, c1) := p1
    have p2 : f_X11_named 0 (10 : Int32) (13 : Int32) σm = some (nI m, σm) := p2
    have S1 := p4.1
    have fC1 := ad.c.tr p4.c
    have fM1 := ad.m.tr p4.m
    obtain ⟨g10, g12, gR, g13, -⟩ := S1.q
    have hk := S1.2.2.k
    have b7 := V.1.2.2.2.2.2.2.2.1 m p0
    rw [p2, zbd_s, zlt_e, zbr_t h13, p1, zbd_s, zlt_e, zbr_f (nI_m1 (by omega)), mr16 hR, w4, px41, zck_t (zok_p (by omega) (by decide)), nI_clamp (n := 41 + m) (by omega), hS.r4 _ (by omega)]
    apply OC_c
    · rw [g12, zck_t kL, hk.2.1.2.2.2.2.2.1, hk.2.2.1.2.2.2.2.2.1, zck_t (zok_p (by omega) (by decide)), nI_clamp (by omega), S1.g.2.2.2.2.1 m p0]
    by_cases hz : F (41 + m) = 0
    · have e0a : e0 ≤ a1 := by
        have := ad.2.2.2
        have := hS.2.1.1.1
        have := p4.2.2.2
        omega
      have wc := C_isWord S1.1 S1.2.1 S1.2.2.rs.1 (j := 16) (by decide)
      have wm := M_isWord S1.2.1 gR g13 S1.1.1 (j := 16) (by decide)
      obtain ⟨a2, e2, kd2, c2, m2, x1, x2, x3⟩ := NX S1
      have S2 := x3.1
      have e0b : e0 ≤ a2 := by
        have := S1.2.1.1.1
        have := x3.2.2.2
        omega
      rw [zbr_t ((tI_m1z b7.1 b7.2).mpr hz), g10, zck_t k2, wc, zbd_s]
      apply OC_m
      · rw [hz, zbr_t (show nI 0 ≤ (0 : Int32) by decide)]
      unfold f_X11_doneLine_45 f_X11_takesWord
      apply OC_m
      · rw [p3, zbd_s, zck_t w0, wm, zbd_s]
      cases ew : wI tp a1 e1 kd1 16 with
      | true =>
        rw [zbr_f (c := bI true = 0) (by decide), zbr_f (c := bI true = 0) (by decide), x2, zbd_s, zck_t (c := zb (1 : Int32)) (by decide), zbd_s, zbr_f z10]
        exact L_told (a0 := a0) (kd0 := kd0) V h9 S2 (fC1.tr x3.c) (fM1.tr x3.m) e0b p0 hz (d := 1) (Or.inl rfl) rfl (by decide) c1 x1 g10
      | false =>
        rw [zbr_t (c := bI false = 0) rfl, zbr_t (c := bI false = 0) rfl, zck_t (c := zb (0 : Int32)) (by decide), zbd_s, zbr_t (c := (0 : Int32) = 0) rfl]
        rcases P_say S1 with ⟨s, a3, e3, kd3, c3, m3, y0, y1, y2, y3, y4⟩ | ⟨y1, y3⟩
        · rw [y1, zbd_s, y3, zbd_s]
          have e0c : e0 ≤ a3 := by
            have := S1.2.1.1.1
            have := y4.2.2.2
            omega
          have hs : s = 0 ∨ s = 1 := by omega
          refine L_told (a0 := a0) (kd0 := kd0) V h9 y4.1 (fC1.tr y4.c) (fM1.tr y4.m) e0c p0 hz (d := s + 3) (by omega) ?_ ?_ c1 y2 g10
          · rcases hs with rfl | rfl
            · decide
            · decide
          · rcases hs with rfl | rfl
            · decide
            · decide
        · refine OC_bad (f := 1) (y := nI a1) (by omega) (by omega) ?_ ?_ (BC_w fC1 _ _) (BM_w fM1 _ _)
          · rw [y1, zbd_s]
            unfold f_X8_readDone_69
            rw [zlt_e, zbr_t m11, C_blame S1.2.1 g10, zbd_s]; rfl
          · rw [y3, zbd_s]
            unfold f_X11_doneLine_68
            rw [zlt_e, zbr_f (by rw [wr_13]; decide)]
    · refine OC_bad (f := 3) (y := nI a) (by omega) (by omega) ?_ ?_ (BC_w fC1 _ _) (BM_w ad.m _ _)
      · rw [zbr_f (fun z => hz ((tI_m1z b7.1 b7.2).mp z)), C_blameAt, zbd_s]; rfl
      · rw [zbr_f (show ¬ nI (F (41 + m)) ≤ (0 : Int32) from (nI_ge (by omega) (by omega) : ¬ nI (F (41 + m)) ≤ nI 0)), hS.2.1.2.2.1.1, M_wrong h13, zbd_s]
        unfold f_X11_doneLine_45
        rw [Mf_pass (wr_13 _ _ _), zbd_s, Mf_takesWord (wr_13 _ _ _), zbd_s, zbr_t (c := (0 : Int32) = 0) rfl, Mf_say (wr_13 _ _ _), zbd_s]
        unfold f_X11_doneLine_68
        rw [zlt_e, zbr_f (by rw [wr_13]; decide)]; rfl
  · have p1 : f_X8_passName 1 (5 : Int32) σc = some (-1, bl σc (nI f) (nI a)) := p1
    have p2 : f_X11_named 0 (10 : Int32) (13 : Int32) σm = some (0, wr σm (nI f) (nI a)) := p2
    refine OC_bad (f := f) (y := nI a) f1 f2 ?_ ?_ (BC_w ad.c _ _) (BM_w ad.m _ _)
    · rw [p1, zbd_s, zlt_e, zbr_t m11]; rfl
    · rw [p2, zbd_s, zlt_e, zbr_f (by rw [wr_13]; decide)]
      unfold f_X11_doneLine_45
      rw [Mf_pass (wr_13 _ _ _), zbd_s, Mf_takesWord (wr_13 _ _ _), zbd_s, zbr_t (c := (0 : Int32) = 0) rfl, Mf_say (wr_13 _ _ _), zbd_s]
      unfold f_X11_doneLine_68
      rw [zlt_e, zbr_f (by rw [wr_13]; decide)]
end LD2
