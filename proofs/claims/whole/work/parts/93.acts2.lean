/-! write, undo, image, back -/
theorem cU.g {b : Bool} {A B T : Nat → Nat} {σ τ : zS} (h : cU b A B T σ) (g : τ.2 = σ.2) (e : ∀ a k, (9 ≤ a ∧ a ≤ 29) ∨ (32 ≤ a ∧ a ≤ 37) ∨ (69 ≤ a ∧ a ≤ 87) → τ.1 a k = σ.1 a k) : cU b A B T τ := by
  have hv := Lc_v b
  exact ⟨g.trans h.1, h.2.1.f (fun a k _ _ => e a k (by omega)), h.2.2.1.f (fun a k _ _ => e a k (by omega)), h.2.2.2.1.f (fun a k _ _ => e a k (by omega)), h.2.2.2.2.f (fun a k _ _ => e a k (by omega))⟩
theorem O_write : zO_write Rel := by
  intro σc σm x y z u v hR
  have hR0 := hR
  obtain ⟨b, A, B, T, hA, hB, hT, hc, hm, h6, h7, h8, h9⟩ := hR
  have hA1 := hA.1
  have hg := hm.g
  have hb8 := hB.1.1
  cases hxyz : (inR x (A 3) && inR y (A 1) && inR z (A 4))
  · refine hR0.ref (v := -1) (t := 1) (by decide) (QC_any ?_) (QM_any ?_)
    · unfold f_X10_write
      rw [zck_t v0, C_isHand hc hA, zbd_s]
      cases e1 : inR x (A 3)
      · rw [zbr_t (by rfl)]; rfl
      · rw [zbr_f (by decide), C_isPlace hc hA, zbd_s]
        cases e2 : inR y (A 1)
        · rw [zbr_t (by rfl)]; rfl
        · rw [zbr_f (by decide), C_isMatter hc hA, zbd_s]
          cases e3 : inR z (A 4)
          · rw [zbr_t (by rfl)]; rfl
          · rw [e1, e2, e3] at hxyz; cases hxyz
    · unfold f_X11_write
      rw [zck_t w0, M_good, zbd_s, M_isPlace hg hA, zbd_s]
      cases e2 : inR y (A 1)
      · rw [zbr_t (by rfl)]; rfl
      · rw [zbr_f (by decide), M_isMatter hg hA, zbd_s]
        cases e3 : inR z (A 4)
        · rw [zbr_t (by rfl)]; rfl
        · rw [zbr_f (by decide), mr15 hg.1, w3, zck_t (by decide), cl3, hg.2.1 3 (by omega), M_in0 x (by omega), zbd_s]
          cases e1 : inR x (A 3)
          · rw [zbr_t (by rfl)]; rfl
          · rw [e1, e2, e3] at hxyz; cases hxyz
  · rw [Bool.and_eq_true, Bool.and_eq_true] at hxyz
    obtain ⟨⟨ex, ey⟩, ez⟩ := hxyz
    have preC : f_X10_write 0 x y z u v σc = zbr (v < 1) (f_X10_write_43 0 σc) (zbr (v ≤ 9) (zbr ((((nI (B 49)) >>> (y &&& 31)) &&& (1 : Int32)) = (1 : Int32)) (zbd (f_X10_refuse 0 (5 : Int32) σc) (fun r24 σ25 => some (r24, σ25))) (zbd (f_X10_roomAt 0 y σc) (fun r26 σ27 => zbr (r26 < v) (f_X10_write_92 0 σ27) (zck (WC.2 (σ27.2 0 3) = (6, 0)) (zbr ((σ27.1 (σ27.2 0 3) 5) < (8 : Int32)) (zbr (u = 0) (f_X10_write_115 0 v (σ27.2 0 3) x y z (0 : Int32) σ27) (f_X10_write_115 0 v (σ27.2 0 3) x y z (1 : Int32) σ27)) (f_X10_write_92 0 σ27)))))) (f_X10_write_43 0 σc)) := by
      unfold f_X10_write
      rw [zck_t v0, C_isHand hc hA, ex, zbd_s, zbr_f (by decide), C_isPlace hc hA, ey, zbd_s, zbr_f (by decide), C_isMatter hc hA, ez, zbd_s, zbr_f (by decide), hc.r3, zck_t v32, hc.2.2.1.2.2.1]
    have preM : f_X11_write 0 x y z u v σm = zbr (bI (inR v 10 && !decide (v = 0)) = 0) (zbd (f_X11_no 0 (2 : Int32) (gd σm)) (fun r17 σ18 => some (r17, σ18))) (zbd (f_X11_hasBit (nI (B 49)) y (gd σm)) (fun r19 σ20 => zbr (r19 = 0) (zck (zok 100 (WM.2 (σ20.2 0 19)) (48 : Int32)) (zbr ((σ20.1 (σ20.2 0 19) (48 : Int32).toNatClampNeg) = (8 : Int32)) (f_X11_write_109 0 σ20) (zbd (f_X11_roomOn 0 (σ20.2 0 15) (σ20.2 0 19) y σ20) (fun r21 σ22 => zbr (v ≤ r21) (zbd (f_X11_note 0 σ22) (fun r23 σ24 => zbr (u = 0) (f_X11_write_136 0 v (σ24.2 0 19) x y z (0 : Int32) σ24) (f_X11_write_136 0 v (σ24.2 0 19) x y z (1 : Int32) σ24))) (f_X11_write_109 0 σ22))))) (zbd (f_X11_no 0 (5 : Int32) σ20) (fun r25 σ26 => some (r25, σ26))))) := by
      unfold f_X11_write
      rw [zck_t w0, M_good, zbd_s, M_isPlace hg hA, ey, zbd_s, zbr_f (by decide), M_isMatter hg hA, ez, zbd_s, zbr_f (by decide), mr15 hg.1, w3, zck_t (by decide), cl3, hg.2.1 3 (by omega), M_in0 x (by omega), ex, zbd_s, zbr_f (by decide), in19, zbd_s, mr19 hg.1, w7, zck_t (by decide), cl49, hg.2.2.1 49 (by omega)]
    rw [preC, preM]
    cases hv : (inR v 10 && !decide (v = 0))
    · refine hR0.ref (v := -1) (t := 2) (by decide) (QC_any ?_) (QM_any ?_)
      · by_cases q : v < 1
        · rw [zbr_t q]; rfl
        · have q0 : ¬ v < 0 := fun z => q (Int32.lt_iff_toInt_lt.mpr (by have := Int32.lt_iff_toInt_lt.mp z; have h0 : (0 : Int32).toInt = 0 := (by decide); have h1 : (1 : Int32).toInt = 1 := (by decide); omega))
          obtain ⟨n, hn, rfl⟩ := nI_of q0
          have hn1 : ¬ n = 0 := fun z => q (by rw [z]; decide)
          rw [inR_n hn, decide_eq_false (show ¬ nI n = 0 from nI_ne0 (by omega) hn), Bool.not_false, Bool.and_true] at hv
          have hv := of_decide_eq_false hv
          rw [zbr_f q, zbr_f (show ¬ nI n ≤ (9 : Int32) from nI_ge (a := 9) (by omega) hn)]; rfl
      · rw [zbr_t (by rfl)]; rfl
    · rw [Bool.and_eq_true] at hv
      obtain ⟨w, hw, rfl⟩ := inR_t hv.1
      have hw0 : ¬ w = 0 := fun z => by have := hv.2; rw [z] at this; revert this; decide
      obtain ⟨h, hh, rfl⟩ := inR_t ex
      obtain ⟨p, hp, rfl⟩ := inR_t ey
      obtain ⟨m, hmm, rfl⟩ := inR_t ez
      have hf := fold_lt hA hB.1
      rw [zbr_f (show ¬ nI w < (1 : Int32) from nI_nlt (b := 1) (by omega) (by omega)), zbr_t (show nI w ≤ (9 : Int32) from nI_le (b := 9) (by omega) (by decide)), nI_get hf (by omega), M_hasBit hf (by omega), zbd_s]
      rw [zbr_f (show ¬ bI true = 0 by decide)]
      cases ht : (B 49).testBit p
      · rw [zbr_f (by decide), zbr_t (by rfl), C_roomAt hc hA hB hp, zbd_s, hc.r3, zck_t v32, hc.2.2.1.1, mr19 hg.1, mr15 hg.1, w7, zck_t (by decide), cl48, hg.2.2.1 48 (by omega), M_room hg hA hB hp, zbd_s]
        have hr9 := room_9 (B := B) hA hp
        by_cases q8 : B 48 < 8
        · rw [zbr_f (show ¬ nI (B 48) = (8 : Int32) from fun e => by have := (nI_eq (b := 8) (by omega) (by decide)).mp e; omega), zbr_t (show nI (B 48) < (8 : Int32) from nI_lt (b := 8) q8 (by decide))]
          by_cases qr : w ≤ room A B p
          · rw [zbr_f (nI_nlt qr (by omega)), zbr_t (nI_le qr (by omega))]
            have h1 : A 1 ≠ 0 := by omega
            obtain ⟨ni, nu, hi, hpast, hz⟩ := h6.2.2
            have core : ∀ s : Nat, s ≤ 1 → ∃ (r : Int32) (σc1 σm1 : zS), f_X10_write_115 0 (nI w) 32 (nI h) (nI p) (nI m) (nI s) σc = some (r, σc1) ∧ (zbd (f_X11_note 0 (gd σm)) (fun _ σ24 => f_X11_write_136 0 (nI w) (σ24.2 0 19) (nI h) (nI p) (nI m) (nI s) σ24)) = some (r, σm1) ∧ Rel σc1 σm1 := by
              intro s hs
              obtain ⟨u0, σ0, e0, f0, p0⟩ := C_add hc.n q8 h p m s w
              have f0' : fr (fun a _ => 32 ≤ a ∧ a ≤ 37) σc σ0 := f0
              obtain ⟨u1, σ1, e1, f1, f2, c1, c2, c3, c4⟩ := keepC (kd := 0) (w := B 48) hc f0' hpast.2.1 hpast.1
              obtain ⟨u2, σ2, e2, f3, f4, hm2, t2, m1, m2, m3⟩ := noteM hm hpast.2.2.1 hpast.1
              obtain ⟨u3, σ3, e3, f5, l3⟩ := M_lay hm2.r7 q8 h p m s w
              have hact : act 0 (B 48) (layB B h p m s w) B := ⟨by omega, q8, fun _ => ⟨rfl, layB_48, (layB_49 q8).symm, (layB_n q8).2.2.2.2.2, fun k hk j hj => (layB_o q8 hk hj).symm⟩, fun z => by omega, fun z => by omega⟩
              have e1 : f_X7_keep 57 0 (nI (B 48)) σ0 = some (u1, σ1) := e1
              refine ⟨nI (B 48), zpi σ1 0 10 0, σ3, ?_, ?_, ?_⟩
              · unfold f_X10_write_115
                rw [zck_t v32, e0, zbd_s, f0.1, hc.r3, zck_t v32, hc.r5, zck_t (by rfl), p0.1, layB_48, nI_pred, e1, zbd_s, f1.1, hc.r3, zck_t v32, f2.2 32 5 (by omega), p0.1, layB_48, nI_pred, C_grant, zbd_s]
              · rw [e2, zbd_s, mr19 hm2.1]
                unfold f_X11_write_136
                rw [e3, zbd_s, f5.1, mr19 hm2.1, w7, zck_t (by decide), cl48, l3 48 (by omega), layB_48, nI_pred]
              · refine actR (B' := layB B h p m s w) (n' := nn nu) hA (vP_lay hB q8 hh hp hmm hs (by omega) (by omega) qr) hT hc hm h6 h7 h1 (f1.pi _ (by unfold PA; omega)) (f3.tr (f5.mo (fun a k z => Or.inl z))) ?_ l3 (zpi_eq _ _ _ _) (by rw [f5.2 0 11 (by omega)]; exact t2) ?_
                · exact p0.f (fun a k h1 h2 => by rw [zpi_ne _ _ (by omega), f2.2 a k (by omega)])
                · refine Past_act hpast hB hact ?_ (fun q hq => ⟨?_, ?_⟩) ?_ ?_ ?_ (fun q hq k hk => ?_) (fun k hk => ?_)
                  · rw [zpi_ne _ _ (by omega)]; exact c1
                  · rw [zpi_ne _ _ (by omega)]; exact (c2 q hq).1
                  · rw [zpi_ne _ _ (by omega)]; exact (c2 q hq).2
                  · rw [zpi_ne _ _ (by omega)]; exact c3
                  · rw [zpi_ne _ _ (by omega)]; exact c4
                  · rw [f5.2 0 22 (by omega)]; exact m1
                  · rw [f5.2 8 _ (by omega)]; exact m2 q hq k hk
                  · rw [f5.2 8 _ (by omega)]; exact m3 k hk
            by_cases qu : u = 0
            · obtain ⟨r, s1, s2, g1, g2, g3⟩ := core 0 (by omega)
              refine ⟨r, s1, s2, by rw [zbr_t qu]; exact g1, ?_, g3⟩
              rw [← g2]
              congr 1
              funext _ σ24
              rw [zbr_t qu]
              rfl
            · obtain ⟨r, s1, s2, g1, g2, g3⟩ := core 1 (by omega)
              refine ⟨r, s1, s2, by rw [zbr_f qu]; exact g1, ?_, g3⟩
              rw [← g2]
              congr 1
              funext _ σ24
              rw [zbr_f qu]
              rfl
          · refine hR0.ref (v := -1) (t := 3) (by decide) (QC_any ?_) (QM_any ?_)
            · rw [zbr_t (nI_lt (by omega) (by omega))]; rfl
            · rw [zbr_f (nI_ge (by omega) (by omega))]; rfl
        · have q8' : B 48 = 8 := by omega
          refine hR0.ref (v := -1) (t := 3) (by decide) (QC_any ?_) (QM_any ?_)
          · rw [q8', zbr_f (show ¬ nI 8 < (8 : Int32) by decide)]
            by_cases qr : w ≤ room A B p
            · rw [zbr_f (nI_nlt qr (by omega))]; rfl
            · rw [zbr_t (nI_lt (by omega) (by omega))]; rfl
          · rw [q8', zbr_t (by rfl)]; rfl
      · refine hR0.ref (v := -1) (t := 5) (by decide) (QC_any ?_) (QM_any ?_)
        · rw [zbr_t (by rfl)]; rfl
        · rw [zbr_f (by decide)]; rfl
theorem O_undo : zO_undo Rel := by
  intro σc σm hR
  have hR0 := hR
  obtain ⟨b, A, B, T, hA, hB, hT, hc, hm, h6, h7, h8, h9⟩ := hR
  have hA1 := hA.1
  have hg := hm.g
  have hb8 := hB.1.1
  have h60 := h6
  obtain ⟨-, -, ni, nu, hi, ⟨u1, u2, u3, U, u4, u5⟩, hz⟩ := h6
  have g22 : (gd σm).1 0 22 = nI nu := by unfold gd; rw [zpi_ne _ _ (by omega), zpi_ne _ _ (by omega)]; exact u3
  by_cases q0 : nu = 0
  · refine hR0.ref (v := 0) (t := 6) (by decide) (QC_any ?_) (QM_any ?_)
    · unfold f_X10_undo; rw [zck_t v0, hc.r5, zck_t (by rfl), u2, q0, zbr_t (by rfl), C_refuse, zbd_s]; rfl
    · unfold f_X11_undo; rw [zck_t w0, M_good, zbd_s, g22, q0, zbr_t (by rfl)]; rfl
  · obtain ⟨q, rfl⟩ : ∃ q, nu = q + 1 := ⟨nu - 1, by omega⟩
    have h1 : A 1 ≠ 0 := fun z => by have := (hz z).2; omega
    obtain ⟨v1, v2, kd, w, v3, v4, v5⟩ := u5 q (by omega)
    rw [u4] at v5
    obtain ⟨k2, k8, a0, a1, a2⟩ := v5
    have hF1 : fr Pn (gd σm) (zpi (gd σm) 0 22 (nI q)) := (fr_r _ _).pi _ (Or.inr ⟨rfl, rfl⟩)
    obtain ⟨u7, σ2, e2, f2, c2⟩ := M_copy (σ := zpi (gd σm) 0 22 (nI q)) (a := 8) (b := 7) (x := 50 * q) (y := 0) (n := 50) w8 w7 (by decide) (by omega) (by omega) (by omega)
    have e2 : f_X11_copy 8 (nI (50 * q)) 7 0 50 (zpi (gd σm) 0 22 (nI q)) = some (u7, σ2) := e2
    have gdo : ∀ a k, ¬ (a = 0 ∧ (k = 0 ∨ k = 11)) → (gd σm).1 a k = σm.1 a k := fun a k z => by
      unfold gd
      rw [zpi_ne _ _ (by omega), zpi_ne _ _ (by omega)]
    have fm : fr PB σm σ2 := ⟨f2.1, fun a k z => by
      unfold PB at z
      rw [f2.2 a k (by omega), zpi_ne _ _ (by omega), gdo a k (by omega)]⟩
    have r7 : ∀ k, k < 50 → σ2.1 7 k = nI (U q k) := fun k hk => by
      have := c2 k hk
      rw [Nat.zero_add, zpi_ne _ _ (by omega), gdo 8 _ (by omega), v2 k hk] at this
      exact this
    have t2 : σ2.1 0 11 = 0 := by rw [f2.2 0 11 (by omega), zpi_ne _ _ (by omega)]; exact gd_11 σm
    have hM : f_X11_undo 0 σm = some (1, σ2) := by
      unfold f_X11_undo
      rw [zck_t w0, M_good, zbd_s, g22, zbr_f (nI_ne0 (by omega) (by omega)), zlt_e, nI_pred, zpi_2, mr20 hg.1, mr19 hg.1, zpi_eq, fx50, e2, zbd_s]
      rfl
    have k58 : WC.2 58 = (100, 16) := rfl
    have k59 : WC.2 59 = (100, 16) := rfl
    -- the class's end: a page's cell changed
    have hC : ∀ (σ' : zS), fr (fun a k => 32 ≤ a ∧ a ≤ 37) (zpi σc 57 2 (nI q)) σ' → pI 32 (U q) σ'.1 → f_X10_undo 0 σc = f_X10_undo_119 0 σ' → ∃ (r : Int32) (σc1 σm1 : zS), f_X10_undo 0 σc = some (r, σc1) ∧ f_X11_undo 0 σm = some (r, σm1) ∧ Rel σc1 σm1 := by
      intro σ' hF hP e
      refine ⟨1, zpi σ' 0 10 0, σ2, ?_, hM, ?_⟩
      · rw [e]
        unfold f_X10_undo_119
        rw [C_grant, zbd_s]
        rfl
      · have fc : fr PA σc (zpi σ' 0 10 0) := ⟨hF.1, fun a k z => by
          unfold PA at z
          rw [zpi_ne _ _ (by omega), hF.2 a k (by omega), zpi_ne _ _ (by omega)]⟩
        refine actR (B' := U q) (n' := q) hA v1 hT hc hm h60 h7 h1 fc fm (hP.f (fun a k _ _ => zpi_ne _ _ (by omega))) r7 (zpi_eq _ _ _ _) t2 ⟨by omega, ?_, ?_, U, rfl, fun q' hq' => ?_⟩
        · rw [zpi_ne _ _ (by omega), hF.2 57 2 (by omega), zpi_eq]
        · rw [f2.2 0 22 (by omega), zpi_eq]
        · obtain ⟨x1, x2, kd', w', x3, x4, x5⟩ := u5 q' (by omega)
          refine ⟨x1, fun k hk => ?_, kd', w', ?_, ?_, x5⟩
          · rw [f2.2 8 _ (by omega), zpi_ne _ _ (by omega), gdo 8 _ (by omega)]; exact x2 k hk
          · rw [zpi_ne _ _ (by omega), hF.2 58 _ (by omega), zpi_ne _ _ (by omega)]; exact x3
          · rw [zpi_ne _ _ (by omega), hF.2 59 _ (by omega), zpi_ne _ _ (by omega)]; exact x4
    have preC : f_X10_undo 0 σc = zbr (nI kd = 0) (f_X10_undo_119 0 (zpi (zpi σc 57 2 (nI q)) 32 5 (nI w))) (zbr (nI kd = 1) (f_X10_undo_119 0 (zpi (zpi σc 57 2 (nI q)) 32 6 (nI (mk (skB B) 8) &&& (((1 : Int32) <<< (nI w &&& 31)) ^^^ (-1 : Int32))))) (f_X10_undo_119 0 (zpi (zpi σc 57 2 (nI q)) 32 7 (nI (B 49) ^^^ ((1 : Int32) <<< (nI w &&& 31)))))) := by
      unfold f_X10_undo
      rw [zck_t v0, hc.r5, zck_t (by rfl), u2, zbr_f (nI_ne0 (by omega) (by omega)), zlt_e, nI_pred, zpi_2, hc.r5, zck_t (by rfl), zpi_eq, hc.r570, hc.r571, k58, k59, zck_t (zok_p (by omega) (by decide)), zlt_e, zck_t (zok_p (by omega) (by decide)), zlt_e, nI_clamp (by omega), zpi_ne _ _ (by omega), zpi_ne _ _ (by omega), v3, v4, hc.r3, zck_t v32, zlt_e, zck_t v32, zlt_e, zck_t v32, zlt_e, zpi_ne _ _ (by omega), zpi_ne _ _ (by omega), hc.2.2.1.2.1, hc.2.2.1.2.2.1]
    obtain ⟨i5, i6, i7, hrow⟩ := hc.2.2.1
    have hk : kd = 0 ∨ kd = 1 ∨ kd = 2 := by omega
    rcases hk with rfl | rfl | rfl
    · obtain ⟨y1, y2, y3, y4, y5⟩ := a0 rfl
      refine hC (zpi (zpi σc 57 2 (nI q)) 32 5 (nI w)) ((fr_r _ _).pi _ (by omega)) ⟨?_, ?_, ?_, fun k hk => ?_⟩ (by rw [preC, zbr_t (by rfl)])
      · rw [zpi_eq, y1]
      · rw [zpi_ne _ _ (by omega), zpi_ne _ _ (by omega), i6]
        congr 1
        apply mk_cong
        intro k hk
        unfold skB
        rw [y1, y2]
        by_cases z : k = w
        · subst z
          rw [y4, decide_eq_false (Nat.lt_irrefl _), decide_eq_false (show ¬ (0 : Nat) = 1 by omega)]
          simp
        · by_cases y : k < w
          · rw [y5 k y 5 (by omega), decide_eq_true y, decide_eq_true (show k < w + 1 by omega)]
          · rw [decide_eq_false y, decide_eq_false (show ¬ k < w + 1 by omega)]
            simp
      · rw [zpi_ne _ _ (by omega), zpi_ne _ _ (by omega), i7, y3]
      · rw [y1] at hk
        have hh := hrow k (by omega)
        have y50 := y5 k hk 0 (by omega)
        rw [Nat.add_zero] at y50
        rw [y50, y5 k hk 1 (by omega), y5 k hk 2 (by omega), y5 k hk 3 (by omega), y5 k hk 4 (by omega)]
        refine ⟨?_, ?_, ?_, ?_, ?_⟩
        · rw [zpi_ne _ _ (by omega), zpi_ne _ _ (by omega)]; exact hh.1
        · rw [zpi_ne _ _ (by omega), zpi_ne _ _ (by omega)]; exact hh.2.1
        · rw [zpi_ne _ _ (by omega), zpi_ne _ _ (by omega)]; exact hh.2.2.1
        · rw [zpi_ne _ _ (by omega), zpi_ne _ _ (by omega)]; exact hh.2.2.2.1
        · rw [zpi_ne _ _ (by omega), zpi_ne _ _ (by omega)]; exact hh.2.2.2.2
    · obtain ⟨y0, y1, y2, y3, y4, y5⟩ := a1 rfl
      refine hC (zpi (zpi σc 57 2 (nI q)) 32 6 (nI (mk (skB B) 8) &&& (((1 : Int32) <<< (nI w &&& 31)) ^^^ (-1 : Int32)))) ((fr_r _ _).pi _ (by omega)) ⟨?_, ?_, ?_, fun k hk => ?_⟩ (by rw [preC, zbr_f (by decide), zbr_t (by rfl)])
      · rw [zpi_ne _ _ (by omega), zpi_ne _ _ (by omega), i5, y1]
      · rw [zpi_eq, m_bit (n := 8) (by omega) (by omega), m_andn (by omega)]
        congr 1
        apply mk_cong
        intro k hk
        unfold skB
        rw [y1]
        by_cases z : k = w
        · subst z
          rw [y3, decide_eq_false (show ¬ (0 : Nat) = 1 by omega)]
          simp
        · by_cases y : k < B 48
          · rw [y5 k y 5 (by omega) (by omega), decide_eq_false z, Bool.not_false, Bool.and_true]
          · rw [decide_eq_false y]
            simp
      · rw [zpi_ne _ _ (by omega), zpi_ne _ _ (by omega), i7, y2]
      · rw [y1] at hk
        have hh := hrow k (by omega)
        have y50 := y5 k hk 0 (by omega) (by omega)
        rw [Nat.add_zero] at y50
        rw [y50, y5 k hk 1 (by omega) (by omega), y5 k hk 2 (by omega) (by omega), y5 k hk 3 (by omega) (by omega), y5 k hk 4 (by omega) (by omega)]
        refine ⟨?_, ?_, ?_, ?_, ?_⟩
        · rw [zpi_ne _ _ (by omega), zpi_ne _ _ (by omega)]; exact hh.1
        · rw [zpi_ne _ _ (by omega), zpi_ne _ _ (by omega)]; exact hh.2.1
        · rw [zpi_ne _ _ (by omega), zpi_ne _ _ (by omega)]; exact hh.2.2.1
        · rw [zpi_ne _ _ (by omega), zpi_ne _ _ (by omega)]; exact hh.2.2.2.1
        · rw [zpi_ne _ _ (by omega), zpi_ne _ _ (by omega)]; exact hh.2.2.2.2
    · obtain ⟨y0, y1, y2, y5⟩ := a2 rfl
      refine hC (zpi (zpi σc 57 2 (nI q)) 32 7 (nI (B 49) ^^^ ((1 : Int32) <<< (nI w &&& 31)))) ((fr_r _ _).pi _ (by omega)) ⟨?_, ?_, ?_, fun k hk => ?_⟩ (by rw [preC, zbr_f (by decide), zbr_f (by decide)])
      · rw [zpi_ne _ _ (by omega), zpi_ne _ _ (by omega), i5, y1]
      · rw [zpi_ne _ _ (by omega), zpi_ne _ _ (by omega), i6]
        congr 1
        apply mk_cong
        intro k hk
        unfold skB
        rw [y1]
        by_cases y : k < B 48
        · rw [y5 k y 5 (by omega)]
        · rw [decide_eq_false y]
          simp
      · rw [zpi_eq, nI_shl1 w (by omega), nI_xor, y2]
      · rw [y1] at hk
        have hh := hrow k (by omega)
        have y50 := y5 k hk 0 (by omega)
        rw [Nat.add_zero] at y50
        rw [y50, y5 k hk 1 (by omega), y5 k hk 2 (by omega), y5 k hk 3 (by omega), y5 k hk 4 (by omega)]
        refine ⟨?_, ?_, ?_, ?_, ?_⟩
        · rw [zpi_ne _ _ (by omega), zpi_ne _ _ (by omega)]; exact hh.1
        · rw [zpi_ne _ _ (by omega), zpi_ne _ _ (by omega)]; exact hh.2.1
        · rw [zpi_ne _ _ (by omega), zpi_ne _ _ (by omega)]; exact hh.2.2.1
        · rw [zpi_ne _ _ (by omega), zpi_ne _ _ (by omega)]; exact hh.2.2.2.1
        · rw [zpi_ne _ _ (by omega), zpi_ne _ _ (by omega)]; exact hh.2.2.2.2
theorem img_K (b : Bool) {q : Nat} (hq : q < 3) : RC b 38 q = 39 + 6 * q ∧ pK (39 + 6 * q) (RC b) := by
  have : q = 0 ∨ q = 1 ∨ q = 2 := by omega
  rcases this with rfl | rfl | rfl
  · exact ⟨by simp only [RCs], pK_39 b⟩
  · exact ⟨by simp only [RCs], pK_45 b⟩
  · exact ⟨by simp only [RCs], pK_51 b⟩
theorem O_image : zO_image Rel := by
  intro σc σm hR
  have hR0 := hR
  obtain ⟨b, A, B, T, hA, hB, hT, hc, hm, h6, h7, h8, h9⟩ := hR
  have hA1 := hA.1
  have hg := hm.g
  have hb8 := hB.1.1
  obtain ⟨x1, ⟨n, tp, x2, x3, x4, x5⟩, ni, nu, ⟨m1, m2, m3, M, m4⟩, ⟨u1, u2, u3, U, u4, u5⟩, hz⟩ := h6
  have gdo : ∀ a k, ¬ (a = 0 ∧ (k = 0 ∨ k = 11)) → (gd σm).1 a k = σm.1 a k := fun a k z => by
    unfold gd
    rw [zpi_ne _ _ (by omega), zpi_ne _ _ (by omega)]
  have g23 : (gd σm).1 0 23 = nI ni := (gdo 0 23 (by omega)).trans m3
  by_cases q : A 1 = 0
  · refine hR0.ref (v := -1) (t := 1) (by decide) (QC_any ?_) (QM_any ?_)
    · unfold f_X10_image; rw [zck_t v0, C_noLetter hc hA, decide_eq_true q, zbd_s, zbr_f (by decide), C_refuse, zbd_s]
    · unfold f_X11_image; rw [zck_t w0, M_good, zbd_s, zbr_t ((M_hl hg).mpr q), M_no, zbd_s]
  · by_cases q3 : ni = 3
    · refine hR0.ref (v := -1) (t := 3) (by decide) (QC_any ?_) (QM_any ?_)
      · unfold f_X10_image; rw [zck_t v0, C_noLetter hc hA, decide_eq_false q, zbd_s, zbr_t (by rfl), m2, q3, zbr_f (by decide), C_refuse, zbd_s]
      · unfold f_X11_image; rw [zck_t w0, M_good, zbd_s, zbr_f (fun z => q ((M_hl hg).mp z)), g23, q3, zbr_t (by rfl), M_no, zbd_s]
    · have hn3 : ni < 3 := by omega
      obtain ⟨ik1, ik2⟩ := img_K b hn3
      obtain ⟨v1, σ1, e1, f1, p1⟩ := C_copyFrom (c := 39 + 6 * ni) (x := 32) (σ := σc) (by rw [hc.1]; exact ik2) hc.n hb8 (by omega)
      obtain ⟨v2, σ2, e2, f2, c2⟩ := M_copy (σ := gd σm) (a := 7) (b := 9) (x := 0) (y := 50 * ni) (n := 50) w7 w9 (by decide) (by omega) (by omega) (by omega)
      have e2 : f_X11_copy 7 0 9 (nI (50 * ni)) 50 (gd σm) = some (v2, σ2) := e2
      have k38 : WC.2 38 = (103, 3) := rfl
      refine ⟨nI ni, zpi (zpi σ1 0 9 (nI (ni + 1))) 0 10 0, zpi σ2 0 23 (nI (ni + 1)), ?_, ?_, ?_⟩
      · unfold f_X10_image
        rw [zck_t v0, C_noLetter hc hA, decide_eq_false q, zbd_s, zbr_t (by rfl), m2, zbr_t (show nI ni < (3 : Int32) from nI_lt (b := 3) hn3 (by decide)), hc.r4, k38, zck_t (zok_p hn3 (by decide)), nI_clamp (by omega), hc.r3, hc.1, ik1, zck_t ik2.1, e1, zbd_s, f1.2 0 9 (by omega), m2, nI_1, zlt_e, zpi_eq, nI_pred, C_grant, zbd_s]
      · unfold f_X11_image
        rw [zck_t w0, M_good, zbd_s, zbr_f (fun z => q ((M_hl hg).mp z)), g23, zbr_f (show ¬ nI ni = (3 : Int32) from fun e => by have := (nI_eq (b := 3) (by omega) (by decide)).mp e; omega), mr19 hg.1, mr21 hg.1, fx50, e2, zbd_s, f2.2 0 23 (by omega), g23, nI_1, zlt_e, zpi_eq, nI_pred]
      · have fc : ∀ a k, ¬ (a = 0 ∧ (k = 9 ∨ k = 10)) → ¬ (39 + 6 * ni ≤ a ∧ a ≤ 39 + 6 * ni + 5) → (zpi (zpi σ1 0 9 (nI (ni + 1))) 0 10 0).1 a k = σc.1 a k := fun a k z1 z2 => by
          rw [zpi_ne _ _ (by omega), zpi_ne _ _ (by omega), f1.2 a k z2]
        have fm : ∀ a k, ¬ (a = 0 ∧ (k = 0 ∨ k = 11 ∨ k = 23)) → ¬ (a = 9 ∧ 50 * ni ≤ k ∧ k < 50 * ni + 50) → (zpi σ2 0 23 (nI (ni + 1))).1 a k = σm.1 a k := fun a k z1 z2 => by
          rw [zpi_ne _ _ (by omega), f2.2 a k z2, gdo a k (by omega)]
        refine ⟨b, A, B, T, hA, hB, hT, hc.g f1.1 (fun a k z => fc a k (by omega) (by omega)), ⟨f2.1.trans hg.1, fun k hk => (fm 3 k (by omega) (by omega)).trans (hm.2.1 k hk), fun k hk => (fm 7 k (by omega) (by omega)).trans (hm.2.2.1 k hk), fun k hk => (fm 5 k (by omega) (by omega)).trans (hm.2.2.2.1 k hk), (fm 0 24 (by omega) (by omega)).trans hm.2.2.2.2.1, (fm 0 14 (by omega) (by omega)).trans hm.2.2.2.2.2⟩, ⟨?_, ⟨n, tp, x2, ?_, ?_, fun k hk => ⟨(x5 k hk).1, ?_, ?_⟩⟩, ni + 1, nu, ⟨by omega, ?_, ?_, fun r => if r = ni then B else M r, fun r hr => ?_⟩, ⟨u1, ?_, ?_, U, u4, fun r hr => ?_⟩, fun e => absurd e q⟩, h7.f (fun a k _ _ => fc a k (by omega) (by omega)), ?_, fun e => ?_⟩
        · rw [fc 0 11 (by omega) (by omega), fm 0 9 (by omega) (by omega)]; exact x1
        · rw [fc 2 1 (by omega) (by omega)]; exact x3
        · rw [fm 0 2 (by omega) (by omega)]; exact x4
        · rw [fc 3 k (by omega) (by omega)]; exact (x5 k hk).2.1
        · rw [fm 1 k (by omega) (by omega)]; exact (x5 k hk).2.2
        · rw [zpi_ne _ _ (by omega), zpi_eq]
        · rw [zpi_eq]
        · show vP A (if r = ni then B else M r) ∧ pI (39 + 6 * r) (if r = ni then B else M r) _ ∧ ∀ k, k < 50 → _ = nI ((if r = ni then B else M r) k)
          by_cases z : r = ni
          · subst z
            rw [if_pos rfl]
            refine ⟨hB, p1.f (fun a k h1 h2 => by rw [zpi_ne _ _ (by omega), zpi_ne _ _ (by omega)]), fun k hk => ?_⟩
            rw [zpi_ne _ _ (by omega), c2 k hk, Nat.zero_add]
            exact hg.2.2.1 k hk
          · rw [if_neg z]
            obtain ⟨o1, o2, o3⟩ := m4 r (by omega)
            refine ⟨o1, o2.f (fun a k h1 h2 => fc a k (by omega) (by omega)), fun k hk => ?_⟩
            rw [fm 9 _ (by omega) (by omega)]
            exact o3 k hk
        · rw [fc 57 2 (by omega) (by omega)]; exact u2
        · rw [fm 0 22 (by omega) (by omega)]; exact u3
        · obtain ⟨o1, o2, kd, w, o3, o4, o5⟩ := u5 r hr
          refine ⟨o1, fun k hk => ?_, kd, w, ?_, ?_, o5⟩
          · rw [fm 8 _ (by omega) (by omega)]; exact o2 k hk
          · rw [fc 58 _ (by omega) (by omega)]; exact o3
          · rw [fc 59 _ (by omega) (by omega)]; exact o4
        · rw [zpi_eq, zpi_ne _ _ (by omega), f2.2 0 11 (by omega), gd_11]
        · rw [zpi_eq] at e; exact absurd e (by decide)
theorem O_back : zO_back Rel := by
  intro σc σm x hR
  have hR0 := hR
  obtain ⟨b, A, B, T, hA, hB, hT, hc, hm, h6, h7, h8, h9⟩ := hR
  have hA1 := hA.1
  have hg := hm.g
  have h60 := h6
  obtain ⟨-, -, ni, nu, ⟨m1, m2, m3, M, m4⟩, -, hz⟩ := h6
  have gdo : ∀ a k, ¬ (a = 0 ∧ (k = 0 ∨ k = 11)) → (gd σm).1 a k = σm.1 a k := fun a k z => by
    unfold gd
    rw [zpi_ne _ _ (by omega), zpi_ne _ _ (by omega)]
  have g23 : (gd σm).1 0 23 = nI ni := (gdo 0 23 (by omega)).trans m3
  cases hx : inR x ni
  · refine hR0.ref (v := 0) (t := 1) (by decide) (QC_any ?_) (QM_any ?_)
    · unfold f_X10_back
      rw [zck_t v0, m2]
      by_cases q : x < 0
      · rw [zbr_t q]; rfl
      · obtain ⟨j, hj, rfl⟩ := nI_of q
        rw [inR_n hj] at hx
        have hx := of_decide_eq_false hx
        rw [zbr_f q, zbr_f (nI_nlt (by omega) hj)]; rfl
    · unfold f_X11_back
      rw [zck_t w0, M_good, zbd_s, g23, M_in0 x (by omega), zbd_s, hx, zbr_t (by rfl)]; rfl
  · obtain ⟨r, hr, rfl⟩ := inR_t hx
    have h1 : A 1 ≠ 0 := fun z => by have := (hz z).1; omega
    obtain ⟨o1, o2, o3⟩ := m4 r hr
    obtain ⟨ik1, ik2⟩ := img_K b (show r < 3 by omega)
    obtain ⟨v1, σ1, e1, f1, p1⟩ := C_copyFrom (c := 32) (x := 39 + 6 * r) (σ := σc) (by rw [hc.1]; exact pK_32 b) ⟨by rw [hc.1]; exact ik2, o2⟩ o1.1.1 (by omega)
    obtain ⟨v2, σ2, e2, f2, c2⟩ := M_copy (σ := gd σm) (a := 9) (b := 7) (x := 50 * r) (y := 0) (n := 50) w9 w7 (by decide) (by omega) (by omega) (by omega)
    have e2 : f_X11_copy 9 (nI (50 * r)) 7 0 50 (gd σm) = some (v2, σ2) := e2
    have k38 : WC.2 38 = (103, 3) := rfl
    refine ⟨1, zpi (zpi σ1 57 2 0) 0 10 0, zpi σ2 0 22 0, ?_, ?_, ?_⟩
    · unfold f_X10_back
      rw [zck_t v0, m2, zbr_f (nI_pos (by omega)), zbr_t (nI_lt hr (by omega)), hc.r4, k38, zck_t (zok_p (by omega) (by decide)), hc.r3, zck_t v32, nI_clamp (by omega), hc.1, ik1, e1, zbd_s, f1.1, hc.r5, zck_t (by rfl), zlt_e, C_grant, zbd_s]
      rfl
    · unfold f_X11_back
      rw [zck_t w0, M_good, zbd_s, g23, M_in0 _ (by omega), zbd_s, hx, zbr_f (by decide), mr21 hg.1, mr19 hg.1, fx50, e2, zbd_s, zlt_e]
      rfl
    · have fc : fr PA σc (zpi (zpi σ1 57 2 0) 0 10 0) := ⟨f1.1, fun a k z => by
        unfold PA at z
        rw [zpi_ne _ _ (by omega), zpi_ne _ _ (by omega), f1.2 a k (by omega)]⟩
      have fm : fr PB σm (zpi σ2 0 22 0) := ⟨f2.1, fun a k z => by
        unfold PB at z
        rw [zpi_ne _ _ (by omega), f2.2 a k (by omega), gdo a k (by omega)]⟩
      refine actR (B' := M r) (n' := 0) hA o1 hT hc hm h60 h7 h1 fc fm (p1.f (fun a k h1 h2 => by rw [zpi_ne _ _ (by omega), zpi_ne _ _ (by omega)])) (fun k hk => ?_) (zpi_eq _ _ _ _) ?_ ⟨by omega, ?_, zpi_eq _ _ _ _, fun _ => M r, rfl, fun q hq => absurd hq (Nat.not_lt_zero q)⟩
      · have := c2 k hk
        rw [Nat.zero_add, gdo 9 _ (by omega), o3 k hk] at this
        rw [zpi_ne _ _ (by omega)]
        exact this
      · rw [zpi_ne _ _ (by omega), f2.2 0 11 (by omega)]; exact gd_11 σm
      · rw [zpi_ne _ _ (by omega), zpi_eq]; rfl
