def f_X11_add (a0 : Nat) (x1 : Int32) (x2 : Int32) (x3 : Int32) (σ : zS) : Option (Unit × zS) := zck (WM.2 a0 = (11, 0)) (zck (zok 100 (WM.2 (σ.2 a0 25)) (σ.1 a0 28)) (zlt (zpi σ (σ.2 a0 25) (σ.1 a0 28).toNatClampNeg x1) (fun σ1 => zck (zok 100 (WM.2 (σ1.2 a0 26)) (σ1.1 a0 28)) (zlt (zpi σ1 (σ1.2 a0 26) (σ1.1 a0 28).toNatClampNeg x2) (fun σ2 => zck (zok 100 (WM.2 (σ2.2 a0 27)) (σ2.1 a0 28)) (zlt (zpi σ2 (σ2.2 a0 27) (σ2.1 a0 28).toNatClampNeg x3) (fun σ3 => zlt (zpi σ3 a0 28 ((σ3.1 a0 28) + (1 : Int32))) (fun σ4 => some ((), σ4)))))))))
theorem c_X11_add (X : zX) (d : Nat) (a0 : Nat) (x1 : Int32) (x2 : Int32) (x3 : Int32) (σ : zS) : ∀ (r : Unit) (σ' : zS), f_X11_add a0 x1 x2 x3 σ = some (r, σ') → zCN X WM d M_X11_add [.ref a0, .int x1, .int x2, .int x3] σ (zeV r, σ') := by
  refine z_entry [.ref a0, .int x1, .int x2, .int x3] (by decide +kernel) T_X11_add (Nat.le_of_ble_eq_true rfl) ?_
  show zK X WM (zrm d) M_X11_add (zZ X WM zeV) 0 [some (.ref a0), some (.int x1), some (.int x2), some (.int x3)] [] σ (f_X11_add a0 x1 x2 x3 σ)
  unfold f_X11_add
  refine z_ck (fun h0 => ?_)
  refine z_aload0 0 1 rfl rfl ?_
  refine z_getR 1 4 25 rfl rfl zf_X11_41 rfl h0 ?_
  refine z_aload0 2 5 rfl rfl ?_
  refine z_getI 3 8 28 rfl rfl zf_X11_281 rfl h0 ?_
  refine z_iload1 4 9 rfl rfl ?_
  refine z_iast 5 10 rfl rfl (fun σ1 => ?_)
  refine z_aload0 6 11 rfl rfl ?_
  refine z_getR 7 14 26 rfl rfl zf_X11_44 rfl h0 ?_
  refine z_aload0 8 15 rfl rfl ?_
  refine z_getI 9 18 28 rfl rfl zf_X11_281 rfl h0 ?_
  refine z_iload2 10 19 rfl rfl ?_
  refine z_iast 11 20 rfl rfl (fun σ2 => ?_)
  refine z_aload0 12 21 rfl rfl ?_
  refine z_getR 13 24 27 rfl rfl zf_X11_47 rfl h0 ?_
  refine z_aload0 14 25 rfl rfl ?_
  refine z_getI 15 28 28 rfl rfl zf_X11_281 rfl h0 ?_
  refine z_iload3 16 29 rfl rfl ?_
  refine z_iast 17 30 rfl rfl (fun σ3 => ?_)
  refine z_aload0 18 31 rfl rfl ?_
  refine z_dup 19 32 rfl rfl rfl ?_
  refine z_getI 20 35 28 rfl rfl zf_X11_281 rfl h0 ?_
  refine z_iconst 21 36 rfl rfl ci_1 ?_
  refine z_iadd 22 37 rfl rfl ?_
  refine z_putI 23 40 28 rfl rfl zf_X11_281 rfl rfl rfl h0 (fun σ4 => ?_)
  exact z_vret 24 rfl rfl
def f_X11_isRead (x0 : Nat) (x1 : Int32) (σ : zS) : Option (Int32 × zS) := zck (zok 100 (WM.2 x0) (((6 : Int32) * x1) + (5 : Int32))) (zbr ((σ.1 x0 (((6 : Int32) * x1) + (5 : Int32)).toNatClampNeg) = 0) (zck (zok 100 (WM.2 x0) (49 : Int32)) (zck (zok 100 (WM.2 x0) (((6 : Int32) * x1) + (1 : Int32))) (zbd (f_X11_hasBit (σ.1 x0 (49 : Int32).toNatClampNeg) (σ.1 x0 (((6 : Int32) * x1) + (1 : Int32)).toNatClampNeg) σ) (fun r1 σ2 => zbr (r1 = 0) (zck (zb (1 : Int32)) (some ((1 : Int32), σ2))) (zck (zb (0 : Int32)) (some ((0 : Int32), σ2))))))) (zck (zb (0 : Int32)) (some ((0 : Int32), σ))))
theorem c_X11_isRead (X : zX) (d : Nat) (hd : 1 ≤ d) (x0 : Nat) (x1 : Int32) (σ : zS) : ∀ (r : Int32) (σ' : zS), f_X11_isRead x0 x1 σ = some (r, σ') → zCN X WM d M_X11_isRead [.ref x0, .int x1] σ (zeI r, σ') := by
  obtain ⟨d, rfl⟩ : ∃ e, d = e + 1 := ⟨d - 1, by omega⟩
  refine z_entry [.ref x0, .int x1] (by decide +kernel) T_X11_isRead (Nat.le_of_ble_eq_true rfl) ?_
  show zK X WM (zrm (d + 1)) M_X11_isRead (zZ X WM zeI) 0 [some (.ref x0), some (.int x1)] [] σ (f_X11_isRead x0 x1 σ)
  unfold f_X11_isRead
  refine z_aload0 0 1 rfl rfl ?_
  refine z_bipush 1 3 rfl rfl cb_6 ?_
  refine z_iload1 2 4 rfl rfl ?_
  refine z_imul 3 5 rfl rfl ?_
  refine z_iconst 4 6 rfl rfl ci_5 ?_
  refine z_iadd 5 7 rfl rfl ?_
  refine z_iald 6 8 rfl rfl ?_
  refine z_if_ne 7 11 33 rfl rfl (by decide) ?_ ?_
  · refine z_aload0 8 12 rfl rfl ?_
    refine z_bipush 9 14 rfl rfl cb_49 ?_
    refine z_iald 10 15 rfl rfl ?_
    refine z_aload0 11 16 rfl rfl ?_
    refine z_bipush 12 18 rfl rfl cb_6 ?_
    refine z_iload1 13 19 rfl rfl ?_
    refine z_imul 14 20 rfl rfl ?_
    refine z_iconst 15 21 rfl rfl ci_1 ?_
    refine z_iadd 16 22 rfl rfl ?_
    refine z_iald 17 23 rfl rfl ?_
    refine z_cS2I 18 26 rfl rfl zl_X11_277 F_X11_hasBit (zR_rm (by omega)) (c_X11_hasBit X d (σ.1 x0 (49 : Int32).toNatClampNeg) (σ.1 x0 (((6 : Int32) * x1) + (1 : Int32)).toNatClampNeg) σ) rfl (Nat.le_of_ble_eq_true rfl) (fun r1 σ2 => ?_)
    refine z_if_ne 19 29 33 rfl rfl (by decide) ?_ ?_
    · refine z_iconst 20 30 rfl rfl ci_1 ?_
      refine z_goto 21 34 rfl (by decide) ?_
      exact z_zret 23 rfl rfl
    · refine z_iconst 22 34 rfl rfl ci_0 ?_
      exact z_zret 23 rfl rfl
  · refine z_iconst 22 34 rfl rfl ci_0 ?_
    exact z_zret 23 rfl rfl
def f_X11_layList_70 (a0 : Nat) (H8 : Nat → Int32 → Int32 → Int32 → Int32 → zS → Option (Unit × zS)) (x1 : Nat) (x2 : Int32) (x3 : Int32) (x4 : Int32) (x5 : Int32) (σ : zS) : Option (Unit × zS) := zlt (x5 + (1 : Int32)) (fun v1 => H8 x1 x2 x3 x4 v1 σ)
theorem t_X11_layList_70 (X : zX) (d : Nat) (hd : 2 ≤ d + 1) (a0 : Nat) (h0 : WM.2 a0 = (11, 0)) (H8 : Nat → Int32 → Int32 → Int32 → Int32 → zS → Option (Unit × zS)) (hH8 : ∀ (x1 : Nat) (x2 : Int32) (x3 : Int32) (x4 : Int32) (x5 : Int32) (σ : zS), zK X WM (zrm (d + 1)) M_X11_layList (zZ X WM zeV) 8 [some (.ref a0), some (.ref x1), some (.int x2), some (.int x3), some (.int x4), some (.int x5)] [] σ (H8 x1 x2 x3 x4 x5 σ)) (x1 : Nat) (x2 : Int32) (x3 : Int32) (x4 : Int32) (x5 : Int32) (σ : zS) : zK X WM (zrm (d + 1)) M_X11_layList (zZ X WM zeV) 70 [some (.ref a0), some (.ref x1), some (.int x2), some (.int x3), some (.int x4), some (.int x5)] [] σ (f_X11_layList_70 a0 H8 x1 x2 x3 x4 x5 σ) := by
  unfold f_X11_layList_70
  refine z_iinc5 42 73 rfl rfl ci_1 rfl (fun v1 => ?_)
  refine z_goto 43 8 rfl (by decide) ?_
  exact hH8 x1 x2 x3 x4 v1 σ
def f_X11_layList_8 (a0 : Nat) : Nat → Nat → Int32 → Int32 → Int32 → Int32 → zS → Option (Unit × zS)
  | 0, _, _, _, _, _, _ => none
  | n + 1, x1, x2, x3, x4, x5, σ => zbr (x3 ≤ x5) (some ((), σ)) (zck (zok 100 (WM.2 x1) (((6 : Int32) * x5) + (2 : Int32))) (zbr ((σ.1 x1 (((6 : Int32) * x5) + (2 : Int32)).toNatClampNeg) = x2) (zbd (f_X11_isRead x1 x5 σ) (fun r2 σ3 => zbr (r2 = 0) (f_X11_layList_70 a0 (f_X11_layList_8 a0 n) x1 x2 x3 x4 x5 σ3) (zbd (f_X11_hasBit x4 x5 σ3) (fun r4 σ5 => zbr (r4 = 0) (zck (zok 100 (WM.2 x1) (((6 : Int32) * x5) + (1 : Int32))) (zck (zok 100 (WM.2 x1) (((6 : Int32) * x5) + (3 : Int32))) (zbd (f_X11_add a0 (σ5.1 x1 (((6 : Int32) * x5) + (1 : Int32)).toNatClampNeg) (σ5.1 x1 (((6 : Int32) * x5) + (3 : Int32)).toNatClampNeg) x5 σ5) (fun r6 σ7 => f_X11_layList_70 a0 (f_X11_layList_8 a0 n) x1 x2 x3 x4 x5 σ7)))) (f_X11_layList_70 a0 (f_X11_layList_8 a0 n) x1 x2 x3 x4 x5 σ5))))) (f_X11_layList_70 a0 (f_X11_layList_8 a0 n) x1 x2 x3 x4 x5 σ)))
theorem t_X11_layList_8 (X : zX) (d : Nat) (hd : 2 ≤ d + 1) (a0 : Nat) (h0 : WM.2 a0 = (11, 0)) : ∀ (n : Nat) (x1 : Nat) (x2 : Int32) (x3 : Int32) (x4 : Int32) (x5 : Int32) (σ : zS), zK X WM (zrm (d + 1)) M_X11_layList (zZ X WM zeV) 8 [some (.ref a0), some (.ref x1), some (.int x2), some (.int x3), some (.int x4), some (.int x5)] [] σ (f_X11_layList_8 a0 n x1 x2 x3 x4 x5 σ) := by
  intro n
  induction n with
  | zero => intro x1 x2 x3 x4 x5 σ; exact z_none
  | succ n ih =>
    intro x1 x2 x3 x4 x5 σ
    rw [f_X11_layList_8]
    refine z_iload5 5 10 rfl rfl ?_
    refine z_iload3 6 11 rfl rfl ?_
    refine z_icmp_ge 7 14 76 rfl rfl (by decide) ?_ ?_
    · exact z_vret 44 rfl rfl
    · refine z_aload1 8 15 rfl rfl ?_
      refine z_bipush 9 17 rfl rfl cb_6 ?_
      refine z_iload5 10 19 rfl rfl ?_
      refine z_imul 11 20 rfl rfl ?_
      refine z_iconst 12 21 rfl rfl ci_2 ?_
      refine z_iadd 13 22 rfl rfl ?_
      refine z_iald 14 23 rfl rfl ?_
      refine z_iload2 15 24 rfl rfl ?_
      refine z_icmp_ne 16 27 70 rfl rfl (by decide) ?_ ?_
      · refine z_aload1 17 28 rfl rfl ?_
        refine z_iload5 18 30 rfl rfl ?_
        refine z_cS2I 19 33 rfl rfl zl_X11_284 F_X11_isRead (zR_rm (by omega)) (c_X11_isRead X d (by omega) x1 x5 σ) rfl (Nat.le_of_ble_eq_true rfl) (fun r2 σ3 => ?_)
        refine z_if_eq 20 36 70 rfl rfl (by decide) ?_ ?_
        · exact t_X11_layList_70 X d hd a0 h0 (f_X11_layList_8 a0 n) ih x1 x2 x3 x4 x5 σ3
        · refine z_iload4 21 38 rfl rfl ?_
          refine z_iload5 22 40 rfl rfl ?_
          refine z_cS2I 23 43 rfl rfl zl_X11_277 F_X11_hasBit (zR_rm (by omega)) (c_X11_hasBit X d x4 x5 σ3) rfl (Nat.le_of_ble_eq_true rfl) (fun r4 σ5 => ?_)
          refine z_if_ne 24 46 70 rfl rfl (by decide) ?_ ?_
          · refine z_aload0 25 47 rfl rfl ?_
            refine z_aload1 26 48 rfl rfl ?_
            refine z_bipush 27 50 rfl rfl cb_6 ?_
            refine z_iload5 28 52 rfl rfl ?_
            refine z_imul 29 53 rfl rfl ?_
            refine z_iconst 30 54 rfl rfl ci_1 ?_
            refine z_iadd 31 55 rfl rfl ?_
            refine z_iald 32 56 rfl rfl ?_
            refine z_aload1 33 57 rfl rfl ?_
            refine z_bipush 34 59 rfl rfl cb_6 ?_
            refine z_iload5 35 61 rfl rfl ?_
            refine z_imul 36 62 rfl rfl ?_
            refine z_iconst 37 63 rfl rfl ci_3 ?_
            refine z_iadd 38 64 rfl rfl ?_
            refine z_iald 39 65 rfl rfl ?_
            refine z_iload5 40 67 rfl rfl ?_
            refine z_cV3V 41 70 rfl rfl zl_X11_288 F_X11_add (zR_rm (by omega)) (c_X11_add X d a0 (σ5.1 x1 (((6 : Int32) * x5) + (1 : Int32)).toNatClampNeg) (σ5.1 x1 (((6 : Int32) * x5) + (3 : Int32)).toNatClampNeg) x5 σ5) ⟨by decide, rfl, rfl⟩ h0 rfl (Nat.le_of_ble_eq_true rfl) (fun r6 σ7 => ?_)
            exact t_X11_layList_70 X d hd a0 h0 (f_X11_layList_8 a0 n) ih x1 x2 x3 x4 x5 σ7
          · exact t_X11_layList_70 X d hd a0 h0 (f_X11_layList_8 a0 n) ih x1 x2 x3 x4 x5 σ5
      · exact t_X11_layList_70 X d hd a0 h0 (f_X11_layList_8 a0 n) ih x1 x2 x3 x4 x5 σ
def f_X11_layList (a0 : Nat) (x1 : Nat) (x2 : Int32) (x3 : Int32) (x4 : Int32) (σ : zS) : Option (Unit × zS) := zck (WM.2 a0 = (11, 0)) (zlt (zpi σ a0 28 (0 : Int32)) (fun σ8 => zlt (0 : Int32) (fun v9 => f_X11_layList_8 a0 FU x1 x2 x3 x4 v9 σ8)))
theorem c_X11_layList (X : zX) (d : Nat) (hd : 2 ≤ d) (a0 : Nat) (x1 : Nat) (x2 : Int32) (x3 : Int32) (x4 : Int32) (σ : zS) : ∀ (r : Unit) (σ' : zS), f_X11_layList a0 x1 x2 x3 x4 σ = some (r, σ') → zCN X WM d M_X11_layList [.ref a0, .ref x1, .int x2, .int x3, .int x4] σ (zeV r, σ') := by
  obtain ⟨d, rfl⟩ : ∃ e, d = e + 1 := ⟨d - 1, by omega⟩
  refine z_entry [.ref a0, .ref x1, .int x2, .int x3, .int x4] (by decide +kernel) T_X11_layList (Nat.le_of_ble_eq_true rfl) ?_
  show zK X WM (zrm (d + 1)) M_X11_layList (zZ X WM zeV) 0 [some (.ref a0), some (.ref x1), some (.int x2), some (.int x3), some (.int x4), none] [] σ (f_X11_layList a0 x1 x2 x3 x4 σ)
  unfold f_X11_layList
  refine z_ck (fun h0 => ?_)
  refine z_aload0 0 1 rfl rfl ?_
  refine z_iconst 1 2 rfl rfl ci_0 ?_
  refine z_putI 2 5 28 rfl rfl zf_X11_281 rfl rfl rfl h0 (fun σ8 => ?_)
  refine z_iconst 3 6 rfl rfl ci_0 ?_
  refine z_istore5 4 8 rfl rfl rfl (fun v9 => ?_)
  exact t_X11_layList_8 X d hd a0 h0  FU x1 x2 x3 x4 v9 σ8
def f_X11_doesBeat (a0 : Nat) (x1 : Int32) (x2 : Int32) (σ : zS) : Option (Int32 × zS) := zck (WM.2 a0 = (11, 0)) (zck (zok 100 (WM.2 (σ.2 a0 25)) x1) (zck (zok 100 (WM.2 (σ.2 a0 25)) x2) (zbr ((σ.1 (σ.2 a0 25) x1.toNatClampNeg) = (σ.1 (σ.2 a0 25) x2.toNatClampNeg)) (zbr (x1 ≤ x2) (zck (zb (0 : Int32)) (some ((0 : Int32), σ))) (zck (zb (1 : Int32)) (some ((1 : Int32), σ)))) (zck (zok 100 (WM.2 (σ.2 a0 25)) x1) (zck (zok 100 (WM.2 (σ.2 a0 25)) x2) (zbd (f_X11_doesOutrank a0 (σ.1 (σ.2 a0 25) x1.toNatClampNeg) (σ.1 (σ.2 a0 25) x2.toNatClampNeg) σ) (fun r1 σ2 => zck (zb r1) (some (r1, σ2)))))))))
theorem c_X11_doesBeat (X : zX) (d : Nat) (hd : 2 ≤ d) (a0 : Nat) (x1 : Int32) (x2 : Int32) (σ : zS) : ∀ (r : Int32) (σ' : zS), f_X11_doesBeat a0 x1 x2 σ = some (r, σ') → zCN X WM d M_X11_doesBeat [.ref a0, .int x1, .int x2] σ (zeI r, σ') := by
  obtain ⟨d, rfl⟩ : ∃ e, d = e + 1 := ⟨d - 1, by omega⟩
  refine z_entry [.ref a0, .int x1, .int x2] (by decide +kernel) T_X11_doesBeat (Nat.le_of_ble_eq_true rfl) ?_
  show zK X WM (zrm (d + 1)) M_X11_doesBeat (zZ X WM zeI) 0 [some (.ref a0), some (.int x1), some (.int x2)] [] σ (f_X11_doesBeat a0 x1 x2 σ)
  unfold f_X11_doesBeat
  refine z_ck (fun h0 => ?_)
  refine z_aload0 0 1 rfl rfl ?_
  refine z_getR 1 4 25 rfl rfl zf_X11_41 rfl h0 ?_
  refine z_iload1 2 5 rfl rfl ?_
  refine z_iald 3 6 rfl rfl ?_
  refine z_aload0 4 7 rfl rfl ?_
  refine z_getR 5 10 25 rfl rfl zf_X11_41 rfl h0 ?_
  refine z_iload2 6 11 rfl rfl ?_
  refine z_iald 7 12 rfl rfl ?_
  refine z_icmp_ne 8 15 28 rfl rfl (by decide) ?_ ?_
  · refine z_iload1 9 16 rfl rfl ?_
    refine z_iload2 10 17 rfl rfl ?_
    refine z_icmp_le 11 20 24 rfl rfl (by decide) ?_ ?_
    · refine z_iconst 14 25 rfl rfl ci_0 ?_
      refine z_goto 15 44 rfl (by decide) ?_
      exact z_zret 26 rfl rfl
    · refine z_iconst 12 21 rfl rfl ci_1 ?_
      refine z_goto 13 44 rfl (by decide) ?_
      exact z_zret 26 rfl rfl
  · refine z_aload0 16 29 rfl rfl ?_
    refine z_aload0 17 30 rfl rfl ?_
    refine z_getR 18 33 25 rfl rfl zf_X11_41 rfl h0 ?_
    refine z_iload1 19 34 rfl rfl ?_
    refine z_iald 20 35 rfl rfl ?_
    refine z_aload0 21 36 rfl rfl ?_
    refine z_getR 22 39 25 rfl rfl zf_X11_41 rfl h0 ?_
    refine z_iload2 23 40 rfl rfl ?_
    refine z_iald 24 41 rfl rfl ?_
    refine z_cV2I 25 44 rfl rfl zl_X11_292 F_X11_doesOutrank (zR_rm (by omega)) (c_X11_doesOutrank X d (by omega) a0 (σ.1 (σ.2 a0 25) x1.toNatClampNeg) (σ.1 (σ.2 a0 25) x2.toNatClampNeg) σ) ⟨by decide, rfl, rfl⟩ h0 rfl (Nat.le_of_ble_eq_true rfl) (fun r1 σ2 => ?_)
    exact z_zret 26 rfl rfl
def f_X11_unbeaten_45 (a0 : Nat) (H2 : Int32 → zS → Option (Int32 × zS)) (H14 : Int32 → Int32 → Int32 → zS → Option (Int32 × zS)) (x1 : Int32) (x3 : Int32) (s0 : Int32) (σ : zS) : Option (Int32 × zS) := zlt s0 (fun v1 => zlt (x3 + (1 : Int32)) (fun v2 => H14 x1 v1 v2 σ))
theorem t_X11_unbeaten_45 (X : zX) (d : Nat) (hd : 3 ≤ d + 1) (a0 : Nat) (h0 : WM.2 a0 = (11, 0)) (H2 : Int32 → zS → Option (Int32 × zS)) (hH2 : ∀ (x1 : Int32) (σ : zS), zK X WM (zrm (d + 1)) M_X11_unbeaten (zZ X WM zeI) 2 [some (.ref a0), some (.int x1), none, none] [] σ (H2 x1 σ)) (H14 : Int32 → Int32 → Int32 → zS → Option (Int32 × zS)) (hH14 : ∀ (x1 : Int32) (x2 : Int32) (x3 : Int32) (σ : zS), zK X WM (zrm (d + 1)) M_X11_unbeaten (zZ X WM zeI) 14 [some (.ref a0), some (.int x1), some (.int x2), some (.int x3)] [] σ (H14 x1 x2 x3 σ)) (x1 : Int32) (x3 : Int32) (s0 : Int32) (σ : zS) : zK X WM (zrm (d + 1)) M_X11_unbeaten (zZ X WM zeI) 45 [some (.ref a0), some (.int x1), none, some (.int x3)] [.int s0] σ (f_X11_unbeaten_45 a0 H2 H14 x1 x3 s0 σ) := by
  unfold f_X11_unbeaten_45
  refine z_istore2 27 46 rfl rfl rfl (fun v1 => ?_)
  refine z_iinc3 28 49 rfl rfl ci_1 rfl (fun v2 => ?_)
  refine z_goto 29 14 rfl (by decide) ?_
  exact hH14 x1 v1 v2 σ
def f_X11_unbeaten_44 (a0 : Nat) (H2 : Int32 → zS → Option (Int32 × zS)) (H14 : Int32 → Int32 → Int32 → zS → Option (Int32 × zS)) (x1 : Int32) (x3 : Int32) (σ : zS) : Option (Int32 × zS) := f_X11_unbeaten_45 a0 H2 H14 x1 x3 (0 : Int32) σ
theorem t_X11_unbeaten_44 (X : zX) (d : Nat) (hd : 3 ≤ d + 1) (a0 : Nat) (h0 : WM.2 a0 = (11, 0)) (H2 : Int32 → zS → Option (Int32 × zS)) (hH2 : ∀ (x1 : Int32) (σ : zS), zK X WM (zrm (d + 1)) M_X11_unbeaten (zZ X WM zeI) 2 [some (.ref a0), some (.int x1), none, none] [] σ (H2 x1 σ)) (H14 : Int32 → Int32 → Int32 → zS → Option (Int32 × zS)) (hH14 : ∀ (x1 : Int32) (x2 : Int32) (x3 : Int32) (σ : zS), zK X WM (zrm (d + 1)) M_X11_unbeaten (zZ X WM zeI) 14 [some (.ref a0), some (.int x1), some (.int x2), some (.int x3)] [] σ (H14 x1 x2 x3 σ)) (x1 : Int32) (x3 : Int32) (σ : zS) : zK X WM (zrm (d + 1)) M_X11_unbeaten (zZ X WM zeI) 44 [some (.ref a0), some (.int x1), none, some (.int x3)] [] σ (f_X11_unbeaten_44 a0 H2 H14 x1 x3 σ) := by
  unfold f_X11_unbeaten_44
  refine z_iconst 26 45 rfl rfl ci_0 ?_
  exact t_X11_unbeaten_45 X d hd a0 h0 H2 hH2 H14 hH14 x1 x3 (0 : Int32) σ
def f_X11_unbeaten_40 (a0 : Nat) (H2 : Int32 → zS → Option (Int32 × zS)) (H14 : Int32 → Int32 → Int32 → zS → Option (Int32 × zS)) (x1 : Int32) (x3 : Int32) (σ : zS) : Option (Int32 × zS) := f_X11_unbeaten_45 a0 H2 H14 x1 x3 (1 : Int32) σ
theorem t_X11_unbeaten_40 (X : zX) (d : Nat) (hd : 3 ≤ d + 1) (a0 : Nat) (h0 : WM.2 a0 = (11, 0)) (H2 : Int32 → zS → Option (Int32 × zS)) (hH2 : ∀ (x1 : Int32) (σ : zS), zK X WM (zrm (d + 1)) M_X11_unbeaten (zZ X WM zeI) 2 [some (.ref a0), some (.int x1), none, none] [] σ (H2 x1 σ)) (H14 : Int32 → Int32 → Int32 → zS → Option (Int32 × zS)) (hH14 : ∀ (x1 : Int32) (x2 : Int32) (x3 : Int32) (σ : zS), zK X WM (zrm (d + 1)) M_X11_unbeaten (zZ X WM zeI) 14 [some (.ref a0), some (.int x1), some (.int x2), some (.int x3)] [] σ (H14 x1 x2 x3 σ)) (x1 : Int32) (x3 : Int32) (σ : zS) : zK X WM (zrm (d + 1)) M_X11_unbeaten (zZ X WM zeI) 40 [some (.ref a0), some (.int x1), none, some (.int x3)] [] σ (f_X11_unbeaten_40 a0 H2 H14 x1 x3 σ) := by
  unfold f_X11_unbeaten_40
  refine z_iconst 24 41 rfl rfl ci_1 ?_
  refine z_goto 25 45 rfl (by decide) ?_
  exact t_X11_unbeaten_45 X d hd a0 h0 H2 hH2 H14 hH14 x1 x3 (1 : Int32) σ
def f_X11_unbeaten_14 (a0 : Nat) (H2 : Int32 → zS → Option (Int32 × zS)) : Nat → Int32 → Int32 → Int32 → zS → Option (Int32 × zS)
  | 0, _, _, _, _ => none
  | n + 1, x1, x2, x3, σ => zbr ((σ.1 a0 28) ≤ x3) (zbr (x2 = 0) (zlt (x1 + (1 : Int32)) (fun v3 => H2 v3 σ)) (some (x1, σ))) (zbr (x2 = 0) (f_X11_unbeaten_44 a0 H2 (f_X11_unbeaten_14 a0 H2 n) x1 x3 σ) (zbr (x1 = x3) (f_X11_unbeaten_40 a0 H2 (f_X11_unbeaten_14 a0 H2 n) x1 x3 σ) (zbd (f_X11_doesBeat a0 x3 x1 σ) (fun r4 σ5 => zbr (r4 = 0) (f_X11_unbeaten_40 a0 H2 (f_X11_unbeaten_14 a0 H2 n) x1 x3 σ5) (f_X11_unbeaten_44 a0 H2 (f_X11_unbeaten_14 a0 H2 n) x1 x3 σ5)))))
theorem t_X11_unbeaten_14 (X : zX) (d : Nat) (hd : 3 ≤ d + 1) (a0 : Nat) (h0 : WM.2 a0 = (11, 0)) (H2 : Int32 → zS → Option (Int32 × zS)) (hH2 : ∀ (x1 : Int32) (σ : zS), zK X WM (zrm (d + 1)) M_X11_unbeaten (zZ X WM zeI) 2 [some (.ref a0), some (.int x1), none, none] [] σ (H2 x1 σ)) : ∀ (n : Nat) (x1 : Int32) (x2 : Int32) (x3 : Int32) (σ : zS), zK X WM (zrm (d + 1)) M_X11_unbeaten (zZ X WM zeI) 14 [some (.ref a0), some (.int x1), some (.int x2), some (.int x3)] [] σ (f_X11_unbeaten_14 a0 H2 n x1 x2 x3 σ) := by
  intro n
  induction n with
  | zero => intro x1 x2 x3 σ; exact z_none
  | succ n ih =>
    intro x1 x2 x3 σ
    rw [f_X11_unbeaten_14]
    refine z_iload3 10 15 rfl rfl ?_
    refine z_aload0 11 16 rfl rfl ?_
    refine z_getI 12 19 28 rfl rfl zf_X11_281 rfl h0 ?_
    refine z_icmp_ge 13 22 52 rfl rfl (by decide) ?_ ?_
    · refine z_iload2 30 53 rfl rfl ?_
      refine z_if_eq 31 56 58 rfl rfl (by decide) ?_ ?_
      · refine z_iinc1 34 61 rfl rfl ci_1 rfl (fun v3 => ?_)
        refine z_goto 35 2 rfl (by decide) ?_
        exact z_wk (zle_e (zle_e (zle_n (zle_n zle_0)))) (hH2 v3 σ)
      · refine z_iload1 32 57 rfl rfl ?_
        exact z_iret 33 rfl rfl
    · refine z_iload2 14 23 rfl rfl ?_
      refine z_if_eq 15 26 44 rfl rfl (by decide) ?_ ?_
      · exact z_wk (zle_e (zle_e (zle_n (zle_e zle_0)))) (t_X11_unbeaten_44 X d hd a0 h0 H2 hH2 (f_X11_unbeaten_14 a0 H2 n) ih x1 x3 σ)
      · refine z_iload1 16 27 rfl rfl ?_
        refine z_iload3 17 28 rfl rfl ?_
        refine z_icmp_eq 18 31 40 rfl rfl (by decide) ?_ ?_
        · exact z_wk (zle_e (zle_e (zle_n (zle_e zle_0)))) (t_X11_unbeaten_40 X d hd a0 h0 H2 hH2 (f_X11_unbeaten_14 a0 H2 n) ih x1 x3 σ)
        · refine z_aload0 19 32 rfl rfl ?_
          refine z_iload3 20 33 rfl rfl ?_
          refine z_iload1 21 34 rfl rfl ?_
          refine z_cV2I 22 37 rfl rfl zl_X11_295 F_X11_doesBeat (zR_rm (by omega)) (c_X11_doesBeat X d (by omega) a0 x3 x1 σ) ⟨by decide, rfl, rfl⟩ h0 rfl (Nat.le_of_ble_eq_true rfl) (fun r4 σ5 => ?_)
          refine z_if_ne 23 40 44 rfl rfl (by decide) ?_ ?_
          · exact z_wk (zle_e (zle_e (zle_n (zle_e zle_0)))) (t_X11_unbeaten_40 X d hd a0 h0 H2 hH2 (f_X11_unbeaten_14 a0 H2 n) ih x1 x3 σ5)
          · exact z_wk (zle_e (zle_e (zle_n (zle_e zle_0)))) (t_X11_unbeaten_44 X d hd a0 h0 H2 hH2 (f_X11_unbeaten_14 a0 H2 n) ih x1 x3 σ5)
def f_X11_unbeaten_2 (a0 : Nat) : Nat → Int32 → zS → Option (Int32 × zS)
  | 0, _, _ => none
  | n + 1, x1, σ => zbr ((σ.1 a0 28) ≤ x1) (some ((-2 : Int32), σ)) (zlt (1 : Int32) (fun v6 => zlt (0 : Int32) (fun v7 => f_X11_unbeaten_14 a0 (f_X11_unbeaten_2 a0 n) FU x1 v6 v7 σ)))
theorem t_X11_unbeaten_2 (X : zX) (d : Nat) (hd : 3 ≤ d + 1) (a0 : Nat) (h0 : WM.2 a0 = (11, 0)) : ∀ (n : Nat) (x1 : Int32) (σ : zS), zK X WM (zrm (d + 1)) M_X11_unbeaten (zZ X WM zeI) 2 [some (.ref a0), some (.int x1), none, none] [] σ (f_X11_unbeaten_2 a0 n x1 σ) := by
  intro n
  induction n with
  | zero => intro x1 σ; exact z_none
  | succ n ih =>
    intro x1 σ
    rw [f_X11_unbeaten_2]
    refine z_iload1 2 3 rfl rfl ?_
    refine z_aload0 3 4 rfl rfl ?_
    refine z_getI 4 7 28 rfl rfl zf_X11_281 rfl h0 ?_
    refine z_icmp_ge 5 10 64 rfl rfl (by decide) ?_ ?_
    · refine z_bipush 36 66 rfl rfl cb_m2 ?_
      exact z_iret 37 rfl rfl
    · refine z_iconst 6 11 rfl rfl ci_1 ?_
      refine z_istore2 7 12 rfl rfl rfl (fun v6 => ?_)
      refine z_iconst 8 13 rfl rfl ci_0 ?_
      refine z_istore3 9 14 rfl rfl rfl (fun v7 => ?_)
      exact t_X11_unbeaten_14 X d hd a0 h0 (f_X11_unbeaten_2 a0 n) ih FU x1 v6 v7 σ
def f_X11_unbeaten (a0 : Nat) (σ : zS) : Option (Int32 × zS) := zck (WM.2 a0 = (11, 0)) (zlt (0 : Int32) (fun v8 => f_X11_unbeaten_2 a0 FU v8 σ))
theorem c_X11_unbeaten (X : zX) (d : Nat) (hd : 3 ≤ d) (a0 : Nat) (σ : zS) : ∀ (r : Int32) (σ' : zS), f_X11_unbeaten a0 σ = some (r, σ') → zCN X WM d M_X11_unbeaten [.ref a0] σ (zeI r, σ') := by
  obtain ⟨d, rfl⟩ : ∃ e, d = e + 1 := ⟨d - 1, by omega⟩
  refine z_entry [.ref a0] (by decide +kernel) T_X11_unbeaten (Nat.le_of_ble_eq_true rfl) ?_
  show zK X WM (zrm (d + 1)) M_X11_unbeaten (zZ X WM zeI) 0 [some (.ref a0), none, none, none] [] σ (f_X11_unbeaten a0 σ)
  unfold f_X11_unbeaten
  refine z_ck (fun h0 => ?_)
  refine z_iconst 0 1 rfl rfl ci_0 ?_
  refine z_istore1 1 2 rfl rfl rfl (fun v8 => ?_)
  exact t_X11_unbeaten_2 X d hd a0 h0  FU v8 σ
def f_X11_listDone (a0 : Nat) (σ : zS) : Option (Int32 × zS) := zck (WM.2 a0 = (11, 0)) (zbd (f_X11_unbeaten a0 σ) (fun r1 σ2 => zlt r1 (fun v3 => zbr (0 ≤ v3) (zck (zok 100 (WM.2 (σ2.2 a0 26)) v3) (some ((σ2.1 (σ2.2 a0 26) v3.toNatClampNeg), σ2))) (some ((-2 : Int32), σ2)))))
theorem c_X11_listDone (X : zX) (d : Nat) (hd : 4 ≤ d) (a0 : Nat) (σ : zS) : ∀ (r : Int32) (σ' : zS), f_X11_listDone a0 σ = some (r, σ') → zCN X WM d M_X11_listDone [.ref a0] σ (zeI r, σ') := by
  obtain ⟨d, rfl⟩ : ∃ e, d = e + 1 := ⟨d - 1, by omega⟩
  refine z_entry [.ref a0] (by decide +kernel) T_X11_listDone (Nat.le_of_ble_eq_true rfl) ?_
  show zK X WM (zrm (d + 1)) M_X11_listDone (zZ X WM zeI) 0 [some (.ref a0), none] [] σ (f_X11_listDone a0 σ)
  unfold f_X11_listDone
  refine z_ck (fun h0 => ?_)
  refine z_aload0 0 1 rfl rfl ?_
  refine z_cV0I 1 4 rfl rfl zl_X11_298 F_X11_unbeaten (zR_rm (by omega)) (c_X11_unbeaten X d (by omega) a0 σ) ⟨by decide, rfl, rfl⟩ h0 rfl (Nat.le_of_ble_eq_true rfl) (fun r1 σ2 => ?_)
  refine z_istore1 2 5 rfl rfl rfl (fun v3 => ?_)
  refine z_iload1 3 6 rfl rfl ?_
  refine z_if_ge 4 9 14 rfl rfl (by decide) ?_ ?_
  · refine z_aload0 7 15 rfl rfl ?_
    refine z_getR 8 18 26 rfl rfl zf_X11_44 rfl h0 ?_
    refine z_iload1 9 19 rfl rfl ?_
    refine z_iald 10 20 rfl rfl ?_
    exact z_iret 11 rfl rfl
  · refine z_bipush 5 11 rfl rfl cb_m2 ?_
    refine z_goto 6 20 rfl (by decide) ?_
    exact z_iret 11 rfl rfl
def f_X11_doneOf (a0 : Nat) (x1 : Nat) (x2 : Int32) (x3 : Int32) (x4 : Int32) (σ : zS) : Option (Int32 × zS) := zck (WM.2 a0 = (11, 0)) (zbd (f_X11_layList a0 x1 x2 x3 x4 σ) (fun r1 σ2 => zbd (f_X11_listDone a0 σ2) (fun r3 σ4 => some (r3, σ4))))
theorem c_X11_doneOf (X : zX) (d : Nat) (hd : 5 ≤ d) (a0 : Nat) (x1 : Nat) (x2 : Int32) (x3 : Int32) (x4 : Int32) (σ : zS) : ∀ (r : Int32) (σ' : zS), f_X11_doneOf a0 x1 x2 x3 x4 σ = some (r, σ') → zCN X WM d M_X11_doneOf [.ref a0, .ref x1, .int x2, .int x3, .int x4] σ (zeI r, σ') := by
  obtain ⟨d, rfl⟩ : ∃ e, d = e + 1 := ⟨d - 1, by omega⟩
  refine z_entry [.ref a0, .ref x1, .int x2, .int x3, .int x4] (by decide +kernel) T_X11_doneOf (Nat.le_of_ble_eq_true rfl) ?_
  show zK X WM (zrm (d + 1)) M_X11_doneOf (zZ X WM zeI) 0 [some (.ref a0), some (.ref x1), some (.int x2), some (.int x3), some (.int x4)] [] σ (f_X11_doneOf a0 x1 x2 x3 x4 σ)
  unfold f_X11_doneOf
  refine z_ck (fun h0 => ?_)
  refine z_aload0 0 1 rfl rfl ?_
  refine z_aload1 1 2 rfl rfl ?_
  refine z_iload2 2 3 rfl rfl ?_
  refine z_iload3 3 4 rfl rfl ?_
  refine z_iload4 4 6 rfl rfl ?_
  refine z_cV4V 5 9 rfl rfl zl_X11_301 F_X11_layList (zR_rm (by omega)) (c_X11_layList X d (by omega) a0 x1 x2 x3 x4 σ) ⟨by decide, rfl, rfl⟩ h0 rfl (Nat.le_of_ble_eq_true rfl) (fun r1 σ2 => ?_)
  refine z_aload0 6 10 rfl rfl ?_
  refine z_cV0I 7 13 rfl rfl zl_X11_305 F_X11_listDone (zR_rm (by omega)) (c_X11_listDone X d (by omega) a0 σ2) ⟨by decide, rfl, rfl⟩ h0 rfl (Nat.le_of_ble_eq_true rfl) (fun r3 σ4 => ?_)
  exact z_iret 8 rfl rfl
def f_X11_doneNow (a0 : Nat) (x1 : Int32) (σ : zS) : Option (Int32 × zS) := zck (WM.2 a0 = (11, 0)) (zck (zok 100 (WM.2 (σ.2 a0 19)) (48 : Int32)) (zbd (f_X11_doneOf a0 (σ.2 a0 19) x1 (σ.1 (σ.2 a0 19) (48 : Int32).toNatClampNeg) (0 : Int32) σ) (fun r1 σ2 => some (r1, σ2))))
theorem c_X11_doneNow (X : zX) (d : Nat) (hd : 6 ≤ d) (a0 : Nat) (x1 : Int32) (σ : zS) : ∀ (r : Int32) (σ' : zS), f_X11_doneNow a0 x1 σ = some (r, σ') → zCN X WM d M_X11_doneNow [.ref a0, .int x1] σ (zeI r, σ') := by
  obtain ⟨d, rfl⟩ : ∃ e, d = e + 1 := ⟨d - 1, by omega⟩
  refine z_entry [.ref a0, .int x1] (by decide +kernel) T_X11_doneNow (Nat.le_of_ble_eq_true rfl) ?_
  show zK X WM (zrm (d + 1)) M_X11_doneNow (zZ X WM zeI) 0 [some (.ref a0), some (.int x1)] [] σ (f_X11_doneNow a0 x1 σ)
  unfold f_X11_doneNow
  refine z_ck (fun h0 => ?_)
  refine z_aload0 0 1 rfl rfl ?_
  refine z_aload0 1 2 rfl rfl ?_
  refine z_getR 2 5 19 rfl rfl zf_X11_32 rfl h0 ?_
  refine z_iload1 3 6 rfl rfl ?_
  refine z_aload0 4 7 rfl rfl ?_
  refine z_getR 5 10 19 rfl rfl zf_X11_32 rfl h0 ?_
  refine z_bipush 6 12 rfl rfl cb_48 ?_
  refine z_iald 7 13 rfl rfl ?_
  refine z_iconst 8 14 rfl rfl ci_0 ?_
  refine z_cV4I 9 17 rfl rfl zl_X11_308 F_X11_doneOf (zR_rm (by omega)) (c_X11_doneOf X d (by omega) a0 (σ.2 a0 19) x1 (σ.1 (σ.2 a0 19) (48 : Int32).toNatClampNeg) (0 : Int32) σ) ⟨by decide, rfl, rfl⟩ h0 rfl (Nat.le_of_ble_eq_true rfl) (fun r1 σ2 => ?_)
  exact z_iret 10 rfl rfl
def f_X11_standsOf (a0 : Nat) (x1 : Int32) (x2 : Int32) (σ : zS) : Option (Int32 × zS) := zck (WM.2 a0 = (11, 0)) (zck (zok 100 (WM.2 (σ.2 a0 19)) (48 : Int32)) (zbd (f_X11_layList a0 (σ.2 a0 19) x1 (σ.1 (σ.2 a0 19) (48 : Int32).toNatClampNeg) x2 σ) (fun r1 σ2 => zbd (f_X11_unbeaten a0 σ2) (fun r3 σ4 => zlt r3 (fun v5 => zbr (0 ≤ v5) (zck (zok 100 (WM.2 (σ4.2 a0 27)) v5) (some ((σ4.1 (σ4.2 a0 27) v5.toNatClampNeg), σ4))) (some ((-2 : Int32), σ4)))))))
theorem c_X11_standsOf (X : zX) (d : Nat) (hd : 4 ≤ d) (a0 : Nat) (x1 : Int32) (x2 : Int32) (σ : zS) : ∀ (r : Int32) (σ' : zS), f_X11_standsOf a0 x1 x2 σ = some (r, σ') → zCN X WM d M_X11_standsOf [.ref a0, .int x1, .int x2] σ (zeI r, σ') := by
  obtain ⟨d, rfl⟩ : ∃ e, d = e + 1 := ⟨d - 1, by omega⟩
  refine z_entry [.ref a0, .int x1, .int x2] (by decide +kernel) T_X11_standsOf (Nat.le_of_ble_eq_true rfl) ?_
  show zK X WM (zrm (d + 1)) M_X11_standsOf (zZ X WM zeI) 0 [some (.ref a0), some (.int x1), some (.int x2), none] [] σ (f_X11_standsOf a0 x1 x2 σ)
  unfold f_X11_standsOf
  refine z_ck (fun h0 => ?_)
  refine z_aload0 0 1 rfl rfl ?_
  refine z_aload0 1 2 rfl rfl ?_
  refine z_getR 2 5 19 rfl rfl zf_X11_32 rfl h0 ?_
  refine z_iload1 3 6 rfl rfl ?_
  refine z_aload0 4 7 rfl rfl ?_
  refine z_getR 5 10 19 rfl rfl zf_X11_32 rfl h0 ?_
  refine z_bipush 6 12 rfl rfl cb_48 ?_
  refine z_iald 7 13 rfl rfl ?_
  refine z_iload2 8 14 rfl rfl ?_
  refine z_cV4V 9 17 rfl rfl zl_X11_301 F_X11_layList (zR_rm (by omega)) (c_X11_layList X d (by omega) a0 (σ.2 a0 19) x1 (σ.1 (σ.2 a0 19) (48 : Int32).toNatClampNeg) x2 σ) ⟨by decide, rfl, rfl⟩ h0 rfl (Nat.le_of_ble_eq_true rfl) (fun r1 σ2 => ?_)
  refine z_aload0 10 18 rfl rfl ?_
  refine z_cV0I 11 21 rfl rfl zl_X11_298 F_X11_unbeaten (zR_rm (by omega)) (c_X11_unbeaten X d (by omega) a0 σ2) ⟨by decide, rfl, rfl⟩ h0 rfl (Nat.le_of_ble_eq_true rfl) (fun r3 σ4 => ?_)
  refine z_istore3 12 22 rfl rfl rfl (fun v5 => ?_)
  refine z_iload3 13 23 rfl rfl ?_
  refine z_if_ge 14 26 31 rfl rfl (by decide) ?_ ?_
  · refine z_aload0 17 32 rfl rfl ?_
    refine z_getR 18 35 27 rfl rfl zf_X11_47 rfl h0 ?_
    refine z_iload3 19 36 rfl rfl ?_
    refine z_iald 20 37 rfl rfl ?_
    exact z_iret 21 rfl rfl
  · refine z_bipush 15 28 rfl rfl cb_m2 ?_
    refine z_goto 16 37 rfl (by decide) ?_
    exact z_iret 21 rfl rfl
def f_X11_linesAt_38 (a0 : Nat) (H4 : Int32 → Int32 → Int32 → zS → Option (Int32 × zS)) (x1 : Int32) (x3 : Int32) (s0 : Int32) (s1 : Int32) (σ : zS) : Option (Int32 × zS) := zlt (s0 ||| s1) (fun v1 => zlt (x3 + (1 : Int32)) (fun v2 => H4 x1 v1 v2 σ))
theorem t_X11_linesAt_38 (X : zX) (d : Nat) (a0 : Nat) (h0 : WM.2 a0 = (11, 0)) (H4 : Int32 → Int32 → Int32 → zS → Option (Int32 × zS)) (hH4 : ∀ (x1 : Int32) (x2 : Int32) (x3 : Int32) (σ : zS), zK X WM (zrm d) M_X11_linesAt (zZ X WM zeI) 4 [some (.ref a0), some (.int x1), some (.int x2), some (.int x3)] [] σ (H4 x1 x2 x3 σ)) (x1 : Int32) (x3 : Int32) (s0 : Int32) (s1 : Int32) (σ : zS) : zK X WM (zrm d) M_X11_linesAt (zZ X WM zeI) 38 [some (.ref a0), some (.int x1), none, some (.int x3)] [.int s1, .int s0] σ (f_X11_linesAt_38 a0 H4 x1 x3 s0 s1 σ) := by
  unfold f_X11_linesAt_38
  refine z_ior 26 39 rfl rfl ?_
  refine z_istore2 27 40 rfl rfl rfl (fun v1 => ?_)
  refine z_iinc3 28 43 rfl rfl ci_1 rfl (fun v2 => ?_)
  refine z_goto 29 4 rfl (by decide) ?_
  exact hH4 x1 v1 v2 σ
def f_X11_linesAt_4 (a0 : Nat) : Nat → Int32 → Int32 → Int32 → zS → Option (Int32 × zS)
  | 0, _, _, _, _ => none
  | n + 1, x1, x2, x3, σ => zck (zok 100 (WM.2 (σ.2 a0 19)) (48 : Int32)) (zbr ((σ.1 (σ.2 a0 19) (48 : Int32).toNatClampNeg) ≤ x3) (some (x2, σ)) (zck (zok 100 (WM.2 (σ.2 a0 19)) (((6 : Int32) * x3) + (1 : Int32))) (zbr ((σ.1 (σ.2 a0 19) (((6 : Int32) * x3) + (1 : Int32)).toNatClampNeg) = x1) (f_X11_linesAt_38 a0 (f_X11_linesAt_4 a0 n) x1 x3 x2 ((1 : Int32) <<< (x3 &&& 31)) σ) (f_X11_linesAt_38 a0 (f_X11_linesAt_4 a0 n) x1 x3 x2 (0 : Int32) σ))))
theorem t_X11_linesAt_4 (X : zX) (d : Nat) (a0 : Nat) (h0 : WM.2 a0 = (11, 0)) : ∀ (n : Nat) (x1 : Int32) (x2 : Int32) (x3 : Int32) (σ : zS), zK X WM (zrm d) M_X11_linesAt (zZ X WM zeI) 4 [some (.ref a0), some (.int x1), some (.int x2), some (.int x3)] [] σ (f_X11_linesAt_4 a0 n x1 x2 x3 σ) := by
  intro n
  induction n with
  | zero => intro x1 x2 x3 σ; exact z_none
  | succ n ih =>
    intro x1 x2 x3 σ
    rw [f_X11_linesAt_4]
    refine z_iload3 4 5 rfl rfl ?_
    refine z_aload0 5 6 rfl rfl ?_
    refine z_getR 6 9 19 rfl rfl zf_X11_32 rfl h0 ?_
    refine z_bipush 7 11 rfl rfl cb_48 ?_
    refine z_iald 8 12 rfl rfl ?_
    refine z_icmp_ge 9 15 46 rfl rfl (by decide) ?_ ?_
    · refine z_iload2 30 47 rfl rfl ?_
      exact z_iret 31 rfl rfl
    · refine z_iload2 10 16 rfl rfl ?_
      refine z_aload0 11 17 rfl rfl ?_
      refine z_getR 12 20 19 rfl rfl zf_X11_32 rfl h0 ?_
      refine z_bipush 13 22 rfl rfl cb_6 ?_
      refine z_iload3 14 23 rfl rfl ?_
      refine z_imul 15 24 rfl rfl ?_
      refine z_iconst 16 25 rfl rfl ci_1 ?_
      refine z_iadd 17 26 rfl rfl ?_
      refine z_iald 18 27 rfl rfl ?_
      refine z_iload1 19 28 rfl rfl ?_
      refine z_icmp_ne 20 31 37 rfl rfl (by decide) ?_ ?_
      · refine z_iconst 21 32 rfl rfl ci_1 ?_
        refine z_iload3 22 33 rfl rfl ?_
        refine z_ishl 23 34 rfl rfl ?_
        refine z_goto 24 38 rfl (by decide) ?_
        exact z_wk (zle_e (zle_e (zle_n (zle_e zle_0)))) (t_X11_linesAt_38 X d a0 h0 (f_X11_linesAt_4 a0 n) ih x1 x3 x2 ((1 : Int32) <<< (x3 &&& 31)) σ)
      · refine z_iconst 25 38 rfl rfl ci_0 ?_
        exact z_wk (zle_e (zle_e (zle_n (zle_e zle_0)))) (t_X11_linesAt_38 X d a0 h0 (f_X11_linesAt_4 a0 n) ih x1 x3 x2 (0 : Int32) σ)
def f_X11_linesAt (a0 : Nat) (x1 : Int32) (σ : zS) : Option (Int32 × zS) := zck (WM.2 a0 = (11, 0)) (zlt (0 : Int32) (fun v3 => zlt (0 : Int32) (fun v4 => f_X11_linesAt_4 a0 FU x1 v3 v4 σ)))
theorem c_X11_linesAt (X : zX) (d : Nat) (a0 : Nat) (x1 : Int32) (σ : zS) : ∀ (r : Int32) (σ' : zS), f_X11_linesAt a0 x1 σ = some (r, σ') → zCN X WM d M_X11_linesAt [.ref a0, .int x1] σ (zeI r, σ') := by
  refine z_entry [.ref a0, .int x1] (by decide +kernel) T_X11_linesAt (Nat.le_of_ble_eq_true rfl) ?_
  show zK X WM (zrm d) M_X11_linesAt (zZ X WM zeI) 0 [some (.ref a0), some (.int x1), none, none] [] σ (f_X11_linesAt a0 x1 σ)
  unfold f_X11_linesAt
  refine z_ck (fun h0 => ?_)
  refine z_iconst 0 1 rfl rfl ci_0 ?_
  refine z_istore2 1 2 rfl rfl rfl (fun v3 => ?_)
  refine z_iconst 2 3 rfl rfl ci_0 ?_
  refine z_istore3 3 4 rfl rfl rfl (fun v4 => ?_)
  exact t_X11_linesAt_4 X d a0 h0  FU x1 v3 v4 σ
def f_X11_outrankedBy_36 (a0 : Nat) (H4 : Int32 → Int32 → Int32 → zS → Option (Int32 × zS)) (x1 : Int32) (x3 : Int32) (s0 : Int32) (s1 : Int32) (σ : zS) : Option (Int32 × zS) := zlt (s0 ||| s1) (fun v1 => zlt (x3 + (1 : Int32)) (fun v2 => H4 x1 v1 v2 σ))
theorem t_X11_outrankedBy_36 (X : zX) (d : Nat) (hd : 2 ≤ d + 1) (a0 : Nat) (h0 : WM.2 a0 = (11, 0)) (H4 : Int32 → Int32 → Int32 → zS → Option (Int32 × zS)) (hH4 : ∀ (x1 : Int32) (x2 : Int32) (x3 : Int32) (σ : zS), zK X WM (zrm (d + 1)) M_X11_outrankedBy (zZ X WM zeI) 4 [some (.ref a0), some (.int x1), some (.int x2), some (.int x3)] [] σ (H4 x1 x2 x3 σ)) (x1 : Int32) (x3 : Int32) (s0 : Int32) (s1 : Int32) (σ : zS) : zK X WM (zrm (d + 1)) M_X11_outrankedBy (zZ X WM zeI) 36 [some (.ref a0), some (.int x1), none, some (.int x3)] [.int s1, .int s0] σ (f_X11_outrankedBy_36 a0 H4 x1 x3 s0 s1 σ) := by
  unfold f_X11_outrankedBy_36
  refine z_ior 24 37 rfl rfl ?_
  refine z_istore2 25 38 rfl rfl rfl (fun v1 => ?_)
  refine z_iinc3 26 41 rfl rfl ci_1 rfl (fun v2 => ?_)
  refine z_goto 27 4 rfl (by decide) ?_
  exact hH4 x1 v1 v2 σ
def f_X11_outrankedBy_35 (a0 : Nat) (H4 : Int32 → Int32 → Int32 → zS → Option (Int32 × zS)) (x1 : Int32) (x3 : Int32) (s0 : Int32) (σ : zS) : Option (Int32 × zS) := f_X11_outrankedBy_36 a0 H4 x1 x3 s0 (0 : Int32) σ
theorem t_X11_outrankedBy_35 (X : zX) (d : Nat) (hd : 2 ≤ d + 1) (a0 : Nat) (h0 : WM.2 a0 = (11, 0)) (H4 : Int32 → Int32 → Int32 → zS → Option (Int32 × zS)) (hH4 : ∀ (x1 : Int32) (x2 : Int32) (x3 : Int32) (σ : zS), zK X WM (zrm (d + 1)) M_X11_outrankedBy (zZ X WM zeI) 4 [some (.ref a0), some (.int x1), some (.int x2), some (.int x3)] [] σ (H4 x1 x2 x3 σ)) (x1 : Int32) (x3 : Int32) (s0 : Int32) (σ : zS) : zK X WM (zrm (d + 1)) M_X11_outrankedBy (zZ X WM zeI) 35 [some (.ref a0), some (.int x1), none, some (.int x3)] [.int s0] σ (f_X11_outrankedBy_35 a0 H4 x1 x3 s0 σ) := by
  unfold f_X11_outrankedBy_35
  refine z_iconst 23 36 rfl rfl ci_0 ?_
  exact t_X11_outrankedBy_36 X d hd a0 h0 H4 hH4 x1 x3 s0 (0 : Int32) σ
def f_X11_outrankedBy_4 (a0 : Nat) : Nat → Int32 → Int32 → Int32 → zS → Option (Int32 × zS)
  | 0, _, _, _, _ => none
  | n + 1, x1, x2, x3, σ => zck (zok 100 (WM.2 (σ.2 a0 15)) (1 : Int32)) (zbr ((σ.1 (σ.2 a0 15) (1 : Int32).toNatClampNeg) ≤ x3) (some (x2, σ)) (zbr (x3 = x1) (f_X11_outrankedBy_35 a0 (f_X11_outrankedBy_4 a0 n) x1 x3 x2 σ) (zbd (f_X11_doesOutrank a0 x1 x3 σ) (fun r3 σ4 => zbr (r3 = 0) (f_X11_outrankedBy_35 a0 (f_X11_outrankedBy_4 a0 n) x1 x3 x2 σ4) (f_X11_outrankedBy_36 a0 (f_X11_outrankedBy_4 a0 n) x1 x3 x2 ((1 : Int32) <<< (x3 &&& 31)) σ4)))))
theorem t_X11_outrankedBy_4 (X : zX) (d : Nat) (hd : 2 ≤ d + 1) (a0 : Nat) (h0 : WM.2 a0 = (11, 0)) : ∀ (n : Nat) (x1 : Int32) (x2 : Int32) (x3 : Int32) (σ : zS), zK X WM (zrm (d + 1)) M_X11_outrankedBy (zZ X WM zeI) 4 [some (.ref a0), some (.int x1), some (.int x2), some (.int x3)] [] σ (f_X11_outrankedBy_4 a0 n x1 x2 x3 σ) := by
  intro n
  induction n with
  | zero => intro x1 x2 x3 σ; exact z_none
  | succ n ih =>
    intro x1 x2 x3 σ
    rw [f_X11_outrankedBy_4]
    refine z_iload3 4 5 rfl rfl ?_
    refine z_aload0 5 6 rfl rfl ?_
    refine z_getR 6 9 15 rfl rfl zf_X11_20 rfl h0 ?_
    refine z_iconst 7 10 rfl rfl ci_1 ?_
    refine z_iald 8 11 rfl rfl ?_
    refine z_icmp_ge 9 14 44 rfl rfl (by decide) ?_ ?_
    · refine z_iload2 28 45 rfl rfl ?_
      exact z_iret 29 rfl rfl
    · refine z_iload2 10 15 rfl rfl ?_
      refine z_iload3 11 16 rfl rfl ?_
      refine z_iload1 12 17 rfl rfl ?_
      refine z_icmp_eq 13 20 35 rfl rfl (by decide) ?_ ?_
      · exact z_wk (zle_e (zle_e (zle_n (zle_e zle_0)))) (t_X11_outrankedBy_35 X d hd a0 h0 (f_X11_outrankedBy_4 a0 n) ih x1 x3 x2 σ)
      · refine z_aload0 14 21 rfl rfl ?_
        refine z_iload1 15 22 rfl rfl ?_
        refine z_iload3 16 23 rfl rfl ?_
        refine z_cV2I 17 26 rfl rfl zl_X11_292 F_X11_doesOutrank (zR_rm (by omega)) (c_X11_doesOutrank X d (by omega) a0 x1 x3 σ) ⟨by decide, rfl, rfl⟩ h0 rfl (Nat.le_of_ble_eq_true rfl) (fun r3 σ4 => ?_)
        refine z_if_eq 18 29 35 rfl rfl (by decide) ?_ ?_
        · exact z_wk (zle_e (zle_e (zle_n (zle_e zle_0)))) (t_X11_outrankedBy_35 X d hd a0 h0 (f_X11_outrankedBy_4 a0 n) ih x1 x3 x2 σ4)
        · refine z_iconst 19 30 rfl rfl ci_1 ?_
          refine z_iload3 20 31 rfl rfl ?_
          refine z_ishl 21 32 rfl rfl ?_
          refine z_goto 22 36 rfl (by decide) ?_
          exact z_wk (zle_e (zle_e (zle_n (zle_e zle_0)))) (t_X11_outrankedBy_36 X d hd a0 h0 (f_X11_outrankedBy_4 a0 n) ih x1 x3 x2 ((1 : Int32) <<< (x3 &&& 31)) σ4)
def f_X11_outrankedBy (a0 : Nat) (x1 : Int32) (σ : zS) : Option (Int32 × zS) := zck (WM.2 a0 = (11, 0)) (zlt (0 : Int32) (fun v5 => zlt (0 : Int32) (fun v6 => f_X11_outrankedBy_4 a0 FU x1 v5 v6 σ)))
theorem c_X11_outrankedBy (X : zX) (d : Nat) (hd : 2 ≤ d) (a0 : Nat) (x1 : Int32) (σ : zS) : ∀ (r : Int32) (σ' : zS), f_X11_outrankedBy a0 x1 σ = some (r, σ') → zCN X WM d M_X11_outrankedBy [.ref a0, .int x1] σ (zeI r, σ') := by
  obtain ⟨d, rfl⟩ : ∃ e, d = e + 1 := ⟨d - 1, by omega⟩
  refine z_entry [.ref a0, .int x1] (by decide +kernel) T_X11_outrankedBy (Nat.le_of_ble_eq_true rfl) ?_
  show zK X WM (zrm (d + 1)) M_X11_outrankedBy (zZ X WM zeI) 0 [some (.ref a0), some (.int x1), none, none] [] σ (f_X11_outrankedBy a0 x1 σ)
  unfold f_X11_outrankedBy
  refine z_ck (fun h0 => ?_)
  refine z_iconst 0 1 rfl rfl ci_0 ?_
  refine z_istore2 1 2 rfl rfl rfl (fun v5 => ?_)
  refine z_iconst 2 3 rfl rfl ci_0 ?_
  refine z_istore3 3 4 rfl rfl rfl (fun v6 => ?_)
  exact t_X11_outrankedBy_4 X d hd a0 h0  FU x1 v5 v6 σ
def f_X11_place_26 (a0 : Nat)  (σ : zS) : Option (Int32 × zS) := zbd (f_X11_no a0 (1 : Int32) σ) (fun r1 σ2 => some (r1, σ2))
theorem t_X11_place_26 (X : zX) (d : Nat) (hd : 3 ≤ d + 1) (a0 : Nat) (h0 : WM.2 a0 = (11, 0))  (σ : zS) : zK X WM (zrm (d + 1)) M_X11_place (zZ X WM zeI) 26 [some (.ref a0), none, none] [] σ (f_X11_place_26 a0 σ) := by
  unfold f_X11_place_26
  refine z_aload0 14 27 rfl rfl ?_
  refine z_iconst 15 28 rfl rfl ci_1 ?_
  refine z_cV1I 16 31 rfl rfl zl_X11_181 F_X11_no (zR_rm (by omega)) (c_X11_no X d a0 (1 : Int32) σ) ⟨by decide, rfl, rfl⟩ h0 rfl (Nat.le_of_ble_eq_true rfl) (fun r1 σ2 => ?_)
  exact z_iret 17 rfl rfl
def f_X11_place (a0 : Nat) (x1 : Int32) (x2 : Int32) (σ : zS) : Option (Int32 × zS) := zck (WM.2 a0 = (11, 0)) (zbd (f_X11_good a0 σ) (fun r3 σ4 => zlt (zpi σ4 a0 24 (0 : Int32)) (fun σ5 => zbd (f_X11_isPlace a0 x1 σ5) (fun r6 σ7 => zbr (r6 = 0) (f_X11_place_26 a0 σ7) (zbd (f_X11_in x2 (0 : Int32) (5 : Int32) σ7) (fun r8 σ9 => zbr (r8 = 0) (f_X11_place_26 a0 σ9) (zbr (x2 = (0 : Int32)) (zck (zok 100 (WM.2 (σ9.2 a0 15)) ((10 : Int32) + ((2 : Int32) * x1))) (some ((σ9.1 (σ9.2 a0 15) ((10 : Int32) + ((2 : Int32) * x1)).toNatClampNeg), σ9))) (zbr (x2 = (1 : Int32)) (zck (zok 100 (WM.2 (σ9.2 a0 15)) (((10 : Int32) + ((2 : Int32) * x1)) + (1 : Int32))) (some ((σ9.1 (σ9.2 a0 15) (((10 : Int32) + ((2 : Int32) * x1)) + (1 : Int32)).toNatClampNeg), σ9))) (zbr (x2 = (2 : Int32)) (zbd (f_X11_roomOn a0 (σ9.2 a0 15) (σ9.2 a0 19) x1 σ9) (fun r13 σ14 => some (r13, σ14))) (zbr (x2 = (3 : Int32)) (zbd (f_X11_outrankedBy a0 x1 σ9) (fun r16 σ17 => some (r16, σ17))) (zbr (x2 = (4 : Int32)) (zbd (f_X11_linesAt a0 x1 σ9) (fun r19 σ20 => some (r19, σ20))) (zck (zok 100 (WM.2 (σ9.2 a0 19)) (49 : Int32)) (some ((((σ9.1 (σ9.2 a0 19) (49 : Int32).toNatClampNeg) >>> (x1 &&& 31)) &&& (1 : Int32)), σ9))))))))))))))
theorem c_X11_place (X : zX) (d : Nat) (hd : 3 ≤ d) (a0 : Nat) (x1 : Int32) (x2 : Int32) (σ : zS) : ∀ (r : Int32) (σ' : zS), f_X11_place a0 x1 x2 σ = some (r, σ') → zCN X WM d M_X11_place [.ref a0, .int x1, .int x2] σ (zeI r, σ') := by
  obtain ⟨d, rfl⟩ : ∃ e, d = e + 1 := ⟨d - 1, by omega⟩
  refine z_entry [.ref a0, .int x1, .int x2] (by decide +kernel) T_X11_place (Nat.le_of_ble_eq_true rfl) ?_
  show zK X WM (zrm (d + 1)) M_X11_place (zZ X WM zeI) 0 [some (.ref a0), some (.int x1), some (.int x2)] [] σ (f_X11_place a0 x1 x2 σ)
  unfold f_X11_place
  refine z_ck (fun h0 => ?_)
  refine z_aload0 0 1 rfl rfl ?_
  refine z_cV0V 1 4 rfl rfl zl_X11_178 F_X11_good (zR_rm (by omega)) (c_X11_good X d a0 σ) ⟨by decide, rfl, rfl⟩ h0 rfl (Nat.le_of_ble_eq_true rfl) (fun r3 σ4 => ?_)
  refine z_aload0 2 5 rfl rfl ?_
  refine z_iconst 3 6 rfl rfl ci_0 ?_
  refine z_putI 4 9 24 rfl rfl zf_X11_274 rfl rfl rfl h0 (fun σ5 => ?_)
  refine z_aload0 5 10 rfl rfl ?_
  refine z_iload1 6 11 rfl rfl ?_
  refine z_cV1I 7 14 rfl rfl zl_X11_312 F_X11_isPlace (zR_rm (by omega)) (c_X11_isPlace X d (by omega) a0 x1 σ5) ⟨by decide, rfl, rfl⟩ h0 rfl (Nat.le_of_ble_eq_true rfl) (fun r6 σ7 => ?_)
  refine z_if_eq 8 17 26 rfl rfl (by decide) ?_ ?_
  · exact z_wk (zle_e (zle_n (zle_n zle_0))) (t_X11_place_26 X d hd a0 h0  σ7)
  · refine z_iload2 9 18 rfl rfl ?_
    refine z_iconst 10 19 rfl rfl ci_0 ?_
    refine z_iconst 11 20 rfl rfl ci_5 ?_
    refine z_cS3I 12 23 rfl rfl zl_X11_157 F_X11_in (zR_rm (by omega)) (c_X11_in X d x2 (0 : Int32) (5 : Int32) σ7) rfl (Nat.le_of_ble_eq_true rfl) (fun r8 σ9 => ?_)
    refine z_if_ne 13 26 32 rfl rfl (by decide) ?_ ?_
    · exact z_wk (zle_e (zle_n (zle_n zle_0))) (t_X11_place_26 X d hd a0 h0  σ9)
    · refine z_iload2 18 33 rfl rfl ?_
      refine z_br (fun e10 => ?_) (fun e10 => ?_)
      · refine z_tabIn 19 68 rfl e10 ct_0 (by decide) (by decide) rfl (by decide) ?_
        refine z_aload0 20 69 rfl rfl ?_
        refine z_getR 21 72 15 rfl rfl zf_X11_20 rfl h0 ?_
        refine z_bipush 22 74 rfl rfl cb_10 ?_
        refine z_iconst 23 75 rfl rfl ci_2 ?_
        refine z_iload1 24 76 rfl rfl ?_
        refine z_imul 25 77 rfl rfl ?_
        refine z_iadd 26 78 rfl rfl ?_
        refine z_iald 27 79 rfl rfl ?_
        exact z_iret 28 rfl rfl
      refine z_br (fun e11 => ?_) (fun e11 => ?_)
      · refine z_tabIn 19 80 rfl e11 ct_1 (by decide) (by decide) rfl (by decide) ?_
        refine z_aload0 29 81 rfl rfl ?_
        refine z_getR 30 84 15 rfl rfl zf_X11_20 rfl h0 ?_
        refine z_bipush 31 86 rfl rfl cb_10 ?_
        refine z_iconst 32 87 rfl rfl ci_2 ?_
        refine z_iload1 33 88 rfl rfl ?_
        refine z_imul 34 89 rfl rfl ?_
        refine z_iadd 35 90 rfl rfl ?_
        refine z_iconst 36 91 rfl rfl ci_1 ?_
        refine z_iadd 37 92 rfl rfl ?_
        refine z_iald 38 93 rfl rfl ?_
        exact z_iret 39 rfl rfl
      refine z_br (fun e12 => ?_) (fun e12 => ?_)
      · refine z_tabIn 19 94 rfl e12 ct_2 (by decide) (by decide) rfl (by decide) ?_
        refine z_aload0 40 95 rfl rfl ?_
        refine z_aload0 41 96 rfl rfl ?_
        refine z_getR 42 99 15 rfl rfl zf_X11_20 rfl h0 ?_
        refine z_aload0 43 100 rfl rfl ?_
        refine z_getR 44 103 19 rfl rfl zf_X11_32 rfl h0 ?_
        refine z_iload1 45 104 rfl rfl ?_
        refine z_cV3I 46 107 rfl rfl zl_X11_262 F_X11_roomOn (zR_rm (by omega)) (c_X11_roomOn X d a0 (σ9.2 a0 15) (σ9.2 a0 19) x1 σ9) ⟨by decide, rfl, rfl⟩ h0 rfl (Nat.le_of_ble_eq_true rfl) (fun r13 σ14 => ?_)
        exact z_iret 47 rfl rfl
      refine z_br (fun e15 => ?_) (fun e15 => ?_)
      · refine z_tabIn 19 108 rfl e15 ct_3 (by decide) (by decide) rfl (by decide) ?_
        refine z_aload0 48 109 rfl rfl ?_
        refine z_iload1 49 110 rfl rfl ?_
        refine z_cV1I 50 113 rfl rfl zl_X11_315 F_X11_outrankedBy (zR_rm (by omega)) (c_X11_outrankedBy X d (by omega) a0 x1 σ9) ⟨by decide, rfl, rfl⟩ h0 rfl (Nat.le_of_ble_eq_true rfl) (fun r16 σ17 => ?_)
        exact z_iret 51 rfl rfl
      refine z_br (fun e18 => ?_) (fun e18 => ?_)
      · refine z_tabIn 19 114 rfl e18 ct_4 (by decide) (by decide) rfl (by decide) ?_
        refine z_aload0 52 115 rfl rfl ?_
        refine z_iload1 53 116 rfl rfl ?_
        refine z_cV1I 54 119 rfl rfl zl_X11_318 F_X11_linesAt (zR_rm (by omega)) (c_X11_linesAt X d a0 x1 σ9) ⟨by decide, rfl, rfl⟩ h0 rfl (Nat.le_of_ble_eq_true rfl) (fun r19 σ20 => ?_)
        exact z_iret 55 rfl rfl
      refine z_tabOut 19 120 rfl (z_out 5 (fun j hj => by rcases (show j = 0 ∨ j = 1 ∨ j = 2 ∨ j = 3 ∨ j = 4 by omega) with rfl | rfl | rfl | rfl | rfl <;> assumption) (by decide) 4 (by decide)) (by decide) ?_
      refine z_aload0 56 121 rfl rfl ?_
      refine z_getR 57 124 19 rfl rfl zf_X11_32 rfl h0 ?_
      refine z_bipush 58 126 rfl rfl cb_49 ?_
      refine z_iald 59 127 rfl rfl ?_
      refine z_iload1 60 128 rfl rfl ?_
      refine z_ishr 61 129 rfl rfl ?_
      refine z_iconst 62 130 rfl rfl ci_1 ?_
      refine z_iand 63 131 rfl rfl ?_
      exact z_iret 64 rfl rfl
def f_X11_linesOf_38 (a0 : Nat) (H4 : Int32 → Int32 → Int32 → zS → Option (Int32 × zS)) (x1 : Int32) (x3 : Int32) (s0 : Int32) (s1 : Int32) (σ : zS) : Option (Int32 × zS) := zlt (s0 ||| s1) (fun v1 => zlt (x3 + (1 : Int32)) (fun v2 => H4 x1 v1 v2 σ))
theorem t_X11_linesOf_38 (X : zX) (d : Nat) (a0 : Nat) (h0 : WM.2 a0 = (11, 0)) (H4 : Int32 → Int32 → Int32 → zS → Option (Int32 × zS)) (hH4 : ∀ (x1 : Int32) (x2 : Int32) (x3 : Int32) (σ : zS), zK X WM (zrm d) M_X11_linesOf (zZ X WM zeI) 4 [some (.ref a0), some (.int x1), some (.int x2), some (.int x3)] [] σ (H4 x1 x2 x3 σ)) (x1 : Int32) (x3 : Int32) (s0 : Int32) (s1 : Int32) (σ : zS) : zK X WM (zrm d) M_X11_linesOf (zZ X WM zeI) 38 [some (.ref a0), some (.int x1), none, some (.int x3)] [.int s1, .int s0] σ (f_X11_linesOf_38 a0 H4 x1 x3 s0 s1 σ) := by
  unfold f_X11_linesOf_38
  refine z_ior 26 39 rfl rfl ?_
  refine z_istore2 27 40 rfl rfl rfl (fun v1 => ?_)
  refine z_iinc3 28 43 rfl rfl ci_1 rfl (fun v2 => ?_)
  refine z_goto 29 4 rfl (by decide) ?_
  exact hH4 x1 v1 v2 σ
def f_X11_linesOf_4 (a0 : Nat) : Nat → Int32 → Int32 → Int32 → zS → Option (Int32 × zS)
  | 0, _, _, _, _ => none
  | n + 1, x1, x2, x3, σ => zck (zok 100 (WM.2 (σ.2 a0 19)) (48 : Int32)) (zbr ((σ.1 (σ.2 a0 19) (48 : Int32).toNatClampNeg) ≤ x3) (some (x2, σ)) (zck (zok 100 (WM.2 (σ.2 a0 19)) (((6 : Int32) * x3) + (0 : Int32))) (zbr ((σ.1 (σ.2 a0 19) (((6 : Int32) * x3) + (0 : Int32)).toNatClampNeg) = x1) (f_X11_linesOf_38 a0 (f_X11_linesOf_4 a0 n) x1 x3 x2 ((1 : Int32) <<< (x3 &&& 31)) σ) (f_X11_linesOf_38 a0 (f_X11_linesOf_4 a0 n) x1 x3 x2 (0 : Int32) σ))))
theorem t_X11_linesOf_4 (X : zX) (d : Nat) (a0 : Nat) (h0 : WM.2 a0 = (11, 0)) : ∀ (n : Nat) (x1 : Int32) (x2 : Int32) (x3 : Int32) (σ : zS), zK X WM (zrm d) M_X11_linesOf (zZ X WM zeI) 4 [some (.ref a0), some (.int x1), some (.int x2), some (.int x3)] [] σ (f_X11_linesOf_4 a0 n x1 x2 x3 σ) := by
  intro n
  induction n with
  | zero => intro x1 x2 x3 σ; exact z_none
  | succ n ih =>
    intro x1 x2 x3 σ
    rw [f_X11_linesOf_4]
    refine z_iload3 4 5 rfl rfl ?_
    refine z_aload0 5 6 rfl rfl ?_
    refine z_getR 6 9 19 rfl rfl zf_X11_32 rfl h0 ?_
    refine z_bipush 7 11 rfl rfl cb_48 ?_
    refine z_iald 8 12 rfl rfl ?_
    refine z_icmp_ge 9 15 46 rfl rfl (by decide) ?_ ?_
    · refine z_iload2 30 47 rfl rfl ?_
      exact z_iret 31 rfl rfl
    · refine z_iload2 10 16 rfl rfl ?_
      refine z_aload0 11 17 rfl rfl ?_
      refine z_getR 12 20 19 rfl rfl zf_X11_32 rfl h0 ?_
      refine z_bipush 13 22 rfl rfl cb_6 ?_
      refine z_iload3 14 23 rfl rfl ?_
      refine z_imul 15 24 rfl rfl ?_
      refine z_iconst 16 25 rfl rfl ci_0 ?_
      refine z_iadd 17 26 rfl rfl ?_
      refine z_iald 18 27 rfl rfl ?_
      refine z_iload1 19 28 rfl rfl ?_
      refine z_icmp_ne 20 31 37 rfl rfl (by decide) ?_ ?_
      · refine z_iconst 21 32 rfl rfl ci_1 ?_
        refine z_iload3 22 33 rfl rfl ?_
        refine z_ishl 23 34 rfl rfl ?_
        refine z_goto 24 38 rfl (by decide) ?_
        exact z_wk (zle_e (zle_e (zle_n (zle_e zle_0)))) (t_X11_linesOf_38 X d a0 h0 (f_X11_linesOf_4 a0 n) ih x1 x3 x2 ((1 : Int32) <<< (x3 &&& 31)) σ)
      · refine z_iconst 25 38 rfl rfl ci_0 ?_
        exact z_wk (zle_e (zle_e (zle_n (zle_e zle_0)))) (t_X11_linesOf_38 X d a0 h0 (f_X11_linesOf_4 a0 n) ih x1 x3 x2 (0 : Int32) σ)
def f_X11_linesOf (a0 : Nat) (x1 : Int32) (σ : zS) : Option (Int32 × zS) := zck (WM.2 a0 = (11, 0)) (zlt (0 : Int32) (fun v3 => zlt (0 : Int32) (fun v4 => f_X11_linesOf_4 a0 FU x1 v3 v4 σ)))
theorem c_X11_linesOf (X : zX) (d : Nat) (a0 : Nat) (x1 : Int32) (σ : zS) : ∀ (r : Int32) (σ' : zS), f_X11_linesOf a0 x1 σ = some (r, σ') → zCN X WM d M_X11_linesOf [.ref a0, .int x1] σ (zeI r, σ') := by
  refine z_entry [.ref a0, .int x1] (by decide +kernel) T_X11_linesOf (Nat.le_of_ble_eq_true rfl) ?_
  show zK X WM (zrm d) M_X11_linesOf (zZ X WM zeI) 0 [some (.ref a0), some (.int x1), none, none] [] σ (f_X11_linesOf a0 x1 σ)
  unfold f_X11_linesOf
  refine z_ck (fun h0 => ?_)
  refine z_iconst 0 1 rfl rfl ci_0 ?_
  refine z_istore2 1 2 rfl rfl rfl (fun v3 => ?_)
  refine z_iconst 2 3 rfl rfl ci_0 ?_
  refine z_istore3 3 4 rfl rfl rfl (fun v4 => ?_)
  exact t_X11_linesOf_4 X d a0 h0  FU x1 v3 v4 σ
def f_X11_ruledBy_51 (a0 : Nat) (H4 : Int32 → Int32 → Int32 → zS → Option (Int32 × zS)) (x1 : Int32) (x3 : Int32) (s0 : Int32) (s1 : Int32) (σ : zS) : Option (Int32 × zS) := zlt (s0 ||| s1) (fun v1 => zlt (x3 + (1 : Int32)) (fun v2 => H4 x1 v1 v2 σ))
theorem t_X11_ruledBy_51 (X : zX) (d : Nat) (hd : 5 ≤ d + 1) (a0 : Nat) (h0 : WM.2 a0 = (11, 0)) (H4 : Int32 → Int32 → Int32 → zS → Option (Int32 × zS)) (hH4 : ∀ (x1 : Int32) (x2 : Int32) (x3 : Int32) (σ : zS), zK X WM (zrm (d + 1)) M_X11_ruledBy (zZ X WM zeI) 4 [some (.ref a0), some (.int x1), some (.int x2), some (.int x3)] [] σ (H4 x1 x2 x3 σ)) (x1 : Int32) (x3 : Int32) (s0 : Int32) (s1 : Int32) (σ : zS) : zK X WM (zrm (d + 1)) M_X11_ruledBy (zZ X WM zeI) 51 [some (.ref a0), some (.int x1), none, some (.int x3)] [.int s1, .int s0] σ (f_X11_ruledBy_51 a0 H4 x1 x3 s0 s1 σ) := by
  unfold f_X11_ruledBy_51
  refine z_ior 34 52 rfl rfl ?_
  refine z_istore2 35 53 rfl rfl rfl (fun v1 => ?_)
  refine z_iinc3 36 56 rfl rfl ci_1 rfl (fun v2 => ?_)
  refine z_goto 37 4 rfl (by decide) ?_
  exact hH4 x1 v1 v2 σ
def f_X11_ruledBy_50 (a0 : Nat) (H4 : Int32 → Int32 → Int32 → zS → Option (Int32 × zS)) (x1 : Int32) (x3 : Int32) (s0 : Int32) (σ : zS) : Option (Int32 × zS) := f_X11_ruledBy_51 a0 H4 x1 x3 s0 (0 : Int32) σ
theorem t_X11_ruledBy_50 (X : zX) (d : Nat) (hd : 5 ≤ d + 1) (a0 : Nat) (h0 : WM.2 a0 = (11, 0)) (H4 : Int32 → Int32 → Int32 → zS → Option (Int32 × zS)) (hH4 : ∀ (x1 : Int32) (x2 : Int32) (x3 : Int32) (σ : zS), zK X WM (zrm (d + 1)) M_X11_ruledBy (zZ X WM zeI) 4 [some (.ref a0), some (.int x1), some (.int x2), some (.int x3)] [] σ (H4 x1 x2 x3 σ)) (x1 : Int32) (x3 : Int32) (s0 : Int32) (σ : zS) : zK X WM (zrm (d + 1)) M_X11_ruledBy (zZ X WM zeI) 50 [some (.ref a0), some (.int x1), none, some (.int x3)] [.int s0] σ (f_X11_ruledBy_50 a0 H4 x1 x3 s0 σ) := by
  unfold f_X11_ruledBy_50
  refine z_iconst 33 51 rfl rfl ci_0 ?_
  exact t_X11_ruledBy_51 X d hd a0 h0 H4 hH4 x1 x3 s0 (0 : Int32) σ
def f_X11_ruledBy_4 (a0 : Nat) : Nat → Int32 → Int32 → Int32 → zS → Option (Int32 × zS)
  | 0, _, _, _, _ => none
  | n + 1, x1, x2, x3, σ => zck (zok 100 (WM.2 (σ.2 a0 15)) (4 : Int32)) (zbr ((σ.1 (σ.2 a0 15) (4 : Int32).toNatClampNeg) ≤ x3) (some (x2, σ)) (zbd (f_X11_standsOf a0 x3 (0 : Int32) σ) (fun r3 σ4 => zbr (r3 < 0) (f_X11_ruledBy_50 a0 (f_X11_ruledBy_4 a0 n) x1 x3 x2 σ4) (zbd (f_X11_standsOf a0 x3 (0 : Int32) σ4) (fun r5 σ6 => zck (zok 100 (WM.2 (σ4.2 a0 19)) (((6 : Int32) * r5) + (0 : Int32))) (zbr ((σ6.1 (σ4.2 a0 19) (((6 : Int32) * r5) + (0 : Int32)).toNatClampNeg) = x1) (f_X11_ruledBy_51 a0 (f_X11_ruledBy_4 a0 n) x1 x3 x2 ((1 : Int32) <<< (x3 &&& 31)) σ6) (f_X11_ruledBy_50 a0 (f_X11_ruledBy_4 a0 n) x1 x3 x2 σ6)))))))
theorem t_X11_ruledBy_4 (X : zX) (d : Nat) (hd : 5 ≤ d + 1) (a0 : Nat) (h0 : WM.2 a0 = (11, 0)) : ∀ (n : Nat) (x1 : Int32) (x2 : Int32) (x3 : Int32) (σ : zS), zK X WM (zrm (d + 1)) M_X11_ruledBy (zZ X WM zeI) 4 [some (.ref a0), some (.int x1), some (.int x2), some (.int x3)] [] σ (f_X11_ruledBy_4 a0 n x1 x2 x3 σ) := by
  intro n
  induction n with
  | zero => intro x1 x2 x3 σ; exact z_none
  | succ n ih =>
    intro x1 x2 x3 σ
    rw [f_X11_ruledBy_4]
    refine z_iload3 4 5 rfl rfl ?_
    refine z_aload0 5 6 rfl rfl ?_
    refine z_getR 6 9 15 rfl rfl zf_X11_20 rfl h0 ?_
    refine z_iconst 7 10 rfl rfl ci_4 ?_
    refine z_iald 8 11 rfl rfl ?_
    refine z_icmp_ge 9 14 59 rfl rfl (by decide) ?_ ?_
    · refine z_iload2 38 60 rfl rfl ?_
      exact z_iret 39 rfl rfl
    · refine z_iload2 10 15 rfl rfl ?_
      refine z_aload0 11 16 rfl rfl ?_
      refine z_iload3 12 17 rfl rfl ?_
      refine z_iconst 13 18 rfl rfl ci_0 ?_
      refine z_cV2I 14 21 rfl rfl zl_X11_321 F_X11_standsOf (zR_rm (by omega)) (c_X11_standsOf X d (by omega) a0 x3 (0 : Int32) σ) ⟨by decide, rfl, rfl⟩ h0 rfl (Nat.le_of_ble_eq_true rfl) (fun r3 σ4 => ?_)
      refine z_if_lt 15 24 50 rfl rfl (by decide) ?_ ?_
      · exact z_wk (zle_e (zle_e (zle_n (zle_e zle_0)))) (t_X11_ruledBy_50 X d hd a0 h0 (f_X11_ruledBy_4 a0 n) ih x1 x3 x2 σ4)
      · refine z_aload0 16 25 rfl rfl ?_
        refine z_getR 17 28 19 rfl rfl zf_X11_32 rfl h0 ?_
        refine z_bipush 18 30 rfl rfl cb_6 ?_
        refine z_aload0 19 31 rfl rfl ?_
        refine z_iload3 20 32 rfl rfl ?_
        refine z_iconst 21 33 rfl rfl ci_0 ?_
        refine z_cV2I 22 36 rfl rfl zl_X11_321 F_X11_standsOf (zR_rm (by omega)) (c_X11_standsOf X d (by omega) a0 x3 (0 : Int32) σ4) ⟨by decide, rfl, rfl⟩ h0 rfl (Nat.le_of_ble_eq_true rfl) (fun r5 σ6 => ?_)
        refine z_imul 23 37 rfl rfl ?_
        refine z_iconst 24 38 rfl rfl ci_0 ?_
        refine z_iadd 25 39 rfl rfl ?_
        refine z_iald 26 40 rfl rfl ?_
        refine z_iload1 27 41 rfl rfl ?_
        refine z_icmp_ne 28 44 50 rfl rfl (by decide) ?_ ?_
        · refine z_iconst 29 45 rfl rfl ci_1 ?_
          refine z_iload3 30 46 rfl rfl ?_
          refine z_ishl 31 47 rfl rfl ?_
          refine z_goto 32 51 rfl (by decide) ?_
          exact z_wk (zle_e (zle_e (zle_n (zle_e zle_0)))) (t_X11_ruledBy_51 X d hd a0 h0 (f_X11_ruledBy_4 a0 n) ih x1 x3 x2 ((1 : Int32) <<< (x3 &&& 31)) σ6)
        · exact z_wk (zle_e (zle_e (zle_n (zle_e zle_0)))) (t_X11_ruledBy_50 X d hd a0 h0 (f_X11_ruledBy_4 a0 n) ih x1 x3 x2 σ6)
def f_X11_ruledBy (a0 : Nat) (x1 : Int32) (σ : zS) : Option (Int32 × zS) := zck (WM.2 a0 = (11, 0)) (zlt (0 : Int32) (fun v7 => zlt (0 : Int32) (fun v8 => f_X11_ruledBy_4 a0 FU x1 v7 v8 σ)))
theorem c_X11_ruledBy (X : zX) (d : Nat) (hd : 5 ≤ d) (a0 : Nat) (x1 : Int32) (σ : zS) : ∀ (r : Int32) (σ' : zS), f_X11_ruledBy a0 x1 σ = some (r, σ') → zCN X WM d M_X11_ruledBy [.ref a0, .int x1] σ (zeI r, σ') := by
  obtain ⟨d, rfl⟩ : ∃ e, d = e + 1 := ⟨d - 1, by omega⟩
  refine z_entry [.ref a0, .int x1] (by decide +kernel) T_X11_ruledBy (Nat.le_of_ble_eq_true rfl) ?_
  show zK X WM (zrm (d + 1)) M_X11_ruledBy (zZ X WM zeI) 0 [some (.ref a0), some (.int x1), none, none] [] σ (f_X11_ruledBy a0 x1 σ)
  unfold f_X11_ruledBy
  refine z_ck (fun h0 => ?_)
  refine z_iconst 0 1 rfl rfl ci_0 ?_
  refine z_istore2 1 2 rfl rfl rfl (fun v7 => ?_)
  refine z_iconst 2 3 rfl rfl ci_0 ?_
  refine z_istore3 3 4 rfl rfl rfl (fun v8 => ?_)
  exact t_X11_ruledBy_4 X d hd a0 h0  FU x1 v7 v8 σ
def f_X11_hand_36 (a0 : Nat)  (σ : zS) : Option (Int32 × zS) := zbd (f_X11_no a0 (1 : Int32) σ) (fun r1 σ2 => some (r1, σ2))
theorem t_X11_hand_36 (X : zX) (d : Nat) (hd : 6 ≤ d + 1) (a0 : Nat) (h0 : WM.2 a0 = (11, 0))  (σ : zS) : zK X WM (zrm (d + 1)) M_X11_hand (zZ X WM zeI) 36 [some (.ref a0), none, none] [] σ (f_X11_hand_36 a0 σ) := by
  unfold f_X11_hand_36
  refine z_aload0 20 37 rfl rfl ?_
  refine z_iconst 21 38 rfl rfl ci_1 ?_
  refine z_cV1I 22 41 rfl rfl zl_X11_181 F_X11_no (zR_rm (by omega)) (c_X11_no X d a0 (1 : Int32) σ) ⟨by decide, rfl, rfl⟩ h0 rfl (Nat.le_of_ble_eq_true rfl) (fun r1 σ2 => ?_)
  exact z_iret 23 rfl rfl
def f_X11_hand (a0 : Nat) (x1 : Int32) (x2 : Int32) (σ : zS) : Option (Int32 × zS) := zck (WM.2 a0 = (11, 0)) (zbd (f_X11_good a0 σ) (fun r3 σ4 => zbr ((σ4.1 a0 14) = 0) (f_X11_hand_36 a0 σ4) (zck (zok 100 (WM.2 (σ4.2 a0 15)) (3 : Int32)) (zbd (f_X11_in x1 (0 : Int32) ((σ4.1 (σ4.2 a0 15) (3 : Int32).toNatClampNeg) - (1 : Int32)) σ4) (fun r5 σ6 => zbr (r5 = 0) (f_X11_hand_36 a0 σ6) (zbd (f_X11_in x2 (0 : Int32) (2 : Int32) σ6) (fun r7 σ8 => zbr (r7 = 0) (f_X11_hand_36 a0 σ8) (zbr (x2 = 0) (zck (zok 100 (WM.2 (σ8.2 a0 15)) ((34 : Int32) + x1)) (some ((σ8.1 (σ8.2 a0 15) ((34 : Int32) + x1).toNatClampNeg), σ8))) (zbr (x2 = (1 : Int32)) (zbd (f_X11_linesOf a0 x1 σ8) (fun r9 σ10 => some (r9, σ10))) (zbd (f_X11_ruledBy a0 x1 σ8) (fun r11 σ12 => some (r11, σ12))))))))))))
theorem c_X11_hand (X : zX) (d : Nat) (hd : 6 ≤ d) (a0 : Nat) (x1 : Int32) (x2 : Int32) (σ : zS) : ∀ (r : Int32) (σ' : zS), f_X11_hand a0 x1 x2 σ = some (r, σ') → zCN X WM d M_X11_hand [.ref a0, .int x1, .int x2] σ (zeI r, σ') := by
  obtain ⟨d, rfl⟩ : ∃ e, d = e + 1 := ⟨d - 1, by omega⟩
  refine z_entry [.ref a0, .int x1, .int x2] (by decide +kernel) T_X11_hand (Nat.le_of_ble_eq_true rfl) ?_
  show zK X WM (zrm (d + 1)) M_X11_hand (zZ X WM zeI) 0 [some (.ref a0), some (.int x1), some (.int x2)] [] σ (f_X11_hand a0 x1 x2 σ)
  unfold f_X11_hand
  refine z_ck (fun h0 => ?_)
  refine z_aload0 0 1 rfl rfl ?_
  refine z_cV0V 1 4 rfl rfl zl_X11_178 F_X11_good (zR_rm (by omega)) (c_X11_good X d a0 σ) ⟨by decide, rfl, rfl⟩ h0 rfl (Nat.le_of_ble_eq_true rfl) (fun r3 σ4 => ?_)
  refine z_aload0 2 5 rfl rfl ?_
  refine z_getI 3 8 14 rfl rfl zf_X11_191 rfl h0 ?_
  refine z_if_eq 4 11 36 rfl rfl (by decide) ?_ ?_
  · exact z_wk (zle_e (zle_n (zle_n zle_0))) (t_X11_hand_36 X d hd a0 h0  σ4)
  · refine z_iload1 5 12 rfl rfl ?_
    refine z_iconst 6 13 rfl rfl ci_0 ?_
    refine z_aload0 7 14 rfl rfl ?_
    refine z_getR 8 17 15 rfl rfl zf_X11_20 rfl h0 ?_
    refine z_iconst 9 18 rfl rfl ci_3 ?_
    refine z_iald 10 19 rfl rfl ?_
    refine z_iconst 11 20 rfl rfl ci_1 ?_
    refine z_isub 12 21 rfl rfl ?_
    refine z_cS3I 13 24 rfl rfl zl_X11_157 F_X11_in (zR_rm (by omega)) (c_X11_in X d x1 (0 : Int32) ((σ4.1 (σ4.2 a0 15) (3 : Int32).toNatClampNeg) - (1 : Int32)) σ4) rfl (Nat.le_of_ble_eq_true rfl) (fun r5 σ6 => ?_)
    refine z_if_eq 14 27 36 rfl rfl (by decide) ?_ ?_
    · exact z_wk (zle_e (zle_n (zle_n zle_0))) (t_X11_hand_36 X d hd a0 h0  σ6)
    · refine z_iload2 15 28 rfl rfl ?_
      refine z_iconst 16 29 rfl rfl ci_0 ?_
      refine z_iconst 17 30 rfl rfl ci_2 ?_
      refine z_cS3I 18 33 rfl rfl zl_X11_157 F_X11_in (zR_rm (by omega)) (c_X11_in X d x2 (0 : Int32) (2 : Int32) σ6) rfl (Nat.le_of_ble_eq_true rfl) (fun r7 σ8 => ?_)
      refine z_if_ne 19 36 42 rfl rfl (by decide) ?_ ?_
      · exact z_wk (zle_e (zle_n (zle_n zle_0))) (t_X11_hand_36 X d hd a0 h0  σ8)
      · refine z_iload2 24 43 rfl rfl ?_
        refine z_if_ne 25 46 58 rfl rfl (by decide) ?_ ?_
        · refine z_aload0 26 47 rfl rfl ?_
          refine z_getR 27 50 15 rfl rfl zf_X11_20 rfl h0 ?_
          refine z_bipush 28 52 rfl rfl cb_34 ?_
          refine z_iload1 29 53 rfl rfl ?_
          refine z_iadd 30 54 rfl rfl ?_
          refine z_iald 31 55 rfl rfl ?_
          refine z_goto 32 76 rfl (by decide) ?_
          exact z_iret 43 rfl rfl
        · refine z_iload2 33 59 rfl rfl ?_
          refine z_iconst 34 60 rfl rfl ci_1 ?_
          refine z_icmp_ne 35 63 71 rfl rfl (by decide) ?_ ?_
          · refine z_aload0 36 64 rfl rfl ?_
            refine z_iload1 37 65 rfl rfl ?_
            refine z_cV1I 38 68 rfl rfl zl_X11_324 F_X11_linesOf (zR_rm (by omega)) (c_X11_linesOf X d a0 x1 σ8) ⟨by decide, rfl, rfl⟩ h0 rfl (Nat.le_of_ble_eq_true rfl) (fun r9 σ10 => ?_)
            refine z_goto 39 76 rfl (by decide) ?_
            exact z_iret 43 rfl rfl
          · refine z_aload0 40 72 rfl rfl ?_
            refine z_iload1 41 73 rfl rfl ?_
            refine z_cV1I 42 76 rfl rfl zl_X11_327 F_X11_ruledBy (zR_rm (by omega)) (c_X11_ruledBy X d (by omega) a0 x1 σ8) ⟨by decide, rfl, rfl⟩ h0 rfl (Nat.le_of_ble_eq_true rfl) (fun r11 σ12 => ?_)
            exact z_iret 43 rfl rfl
def f_X11_beatersOf_91 (a0 : Nat) (H31 : Int32 → Int32 → Int32 → zS → Option (Int32 × zS)) (H42 : Int32 → Int32 → Int32 → Int32 → zS → Option (Int32 × zS)) (x1 : Int32) (x3 : Int32) (x4 : Int32) (s0 : Int32) (s1 : Int32) (σ : zS) : Option (Int32 × zS) := zlt (s0 ||| s1) (fun v1 => zlt (x4 + (1 : Int32)) (fun v2 => H42 x1 v1 x3 v2 σ))
theorem t_X11_beatersOf_91 (X : zX) (d : Nat) (hd : 3 ≤ d + 1) (a0 : Nat) (h0 : WM.2 a0 = (11, 0)) (H31 : Int32 → Int32 → Int32 → zS → Option (Int32 × zS)) (hH31 : ∀ (x1 : Int32) (x2 : Int32) (x3 : Int32) (σ : zS), zK X WM (zrm (d + 1)) M_X11_beatersOf (zZ X WM zeI) 31 [some (.ref a0), some (.int x1), some (.int x2), some (.int x3), none] [] σ (H31 x1 x2 x3 σ)) (H42 : Int32 → Int32 → Int32 → Int32 → zS → Option (Int32 × zS)) (hH42 : ∀ (x1 : Int32) (x2 : Int32) (x3 : Int32) (x4 : Int32) (σ : zS), zK X WM (zrm (d + 1)) M_X11_beatersOf (zZ X WM zeI) 42 [some (.ref a0), some (.int x1), some (.int x2), some (.int x3), some (.int x4)] [] σ (H42 x1 x2 x3 x4 σ)) (x1 : Int32) (x3 : Int32) (x4 : Int32) (s0 : Int32) (s1 : Int32) (σ : zS) : zK X WM (zrm (d + 1)) M_X11_beatersOf (zZ X WM zeI) 91 [some (.ref a0), some (.int x1), none, some (.int x3), some (.int x4)] [.int s1, .int s0] σ (f_X11_beatersOf_91 a0 H31 H42 x1 x3 x4 s0 s1 σ) := by
  unfold f_X11_beatersOf_91
  refine z_ior 54 92 rfl rfl ?_
  refine z_istore2 55 93 rfl rfl rfl (fun v1 => ?_)
  refine z_iinc4 56 96 rfl rfl ci_1 rfl (fun v2 => ?_)
  refine z_goto 57 42 rfl (by decide) ?_
  exact hH42 x1 v1 x3 v2 σ
def f_X11_beatersOf_90 (a0 : Nat) (H31 : Int32 → Int32 → Int32 → zS → Option (Int32 × zS)) (H42 : Int32 → Int32 → Int32 → Int32 → zS → Option (Int32 × zS)) (x1 : Int32) (x3 : Int32) (x4 : Int32) (s0 : Int32) (σ : zS) : Option (Int32 × zS) := f_X11_beatersOf_91 a0 H31 H42 x1 x3 x4 s0 (0 : Int32) σ
theorem t_X11_beatersOf_90 (X : zX) (d : Nat) (hd : 3 ≤ d + 1) (a0 : Nat) (h0 : WM.2 a0 = (11, 0)) (H31 : Int32 → Int32 → Int32 → zS → Option (Int32 × zS)) (hH31 : ∀ (x1 : Int32) (x2 : Int32) (x3 : Int32) (σ : zS), zK X WM (zrm (d + 1)) M_X11_beatersOf (zZ X WM zeI) 31 [some (.ref a0), some (.int x1), some (.int x2), some (.int x3), none] [] σ (H31 x1 x2 x3 σ)) (H42 : Int32 → Int32 → Int32 → Int32 → zS → Option (Int32 × zS)) (hH42 : ∀ (x1 : Int32) (x2 : Int32) (x3 : Int32) (x4 : Int32) (σ : zS), zK X WM (zrm (d + 1)) M_X11_beatersOf (zZ X WM zeI) 42 [some (.ref a0), some (.int x1), some (.int x2), some (.int x3), some (.int x4)] [] σ (H42 x1 x2 x3 x4 σ)) (x1 : Int32) (x3 : Int32) (x4 : Int32) (s0 : Int32) (σ : zS) : zK X WM (zrm (d + 1)) M_X11_beatersOf (zZ X WM zeI) 90 [some (.ref a0), some (.int x1), none, some (.int x3), some (.int x4)] [.int s0] σ (f_X11_beatersOf_90 a0 H31 H42 x1 x3 x4 s0 σ) := by
  unfold f_X11_beatersOf_90
  refine z_iconst 53 91 rfl rfl ci_0 ?_
  exact t_X11_beatersOf_91 X d hd a0 h0 H31 hH31 H42 hH42 x1 x3 x4 s0 (0 : Int32) σ
def f_X11_beatersOf_42 (a0 : Nat) (H31 : Int32 → Int32 → Int32 → zS → Option (Int32 × zS)) : Nat → Int32 → Int32 → Int32 → Int32 → zS → Option (Int32 × zS)
  | 0, _, _, _, _, _ => none
  | n + 1, x1, x2, x3, x4, σ => zbr ((σ.1 a0 28) ≤ x4) (zlt (x3 + (1 : Int32)) (fun v3 => H31 x1 x2 v3 σ)) (zck (zok 100 (WM.2 (σ.2 a0 27)) x3) (zbr ((σ.1 (σ.2 a0 27) x3.toNatClampNeg) = x1) (zbr (x3 = x4) (f_X11_beatersOf_90 a0 H31 (f_X11_beatersOf_42 a0 H31 n) x1 x3 x4 x2 σ) (zbd (f_X11_doesBeat a0 x4 x3 σ) (fun r4 σ5 => zbr (r4 = 0) (f_X11_beatersOf_90 a0 H31 (f_X11_beatersOf_42 a0 H31 n) x1 x3 x4 x2 σ5) (zck (zok 100 (WM.2 (σ5.2 a0 27)) x4) (f_X11_beatersOf_91 a0 H31 (f_X11_beatersOf_42 a0 H31 n) x1 x3 x4 x2 ((1 : Int32) <<< ((σ5.1 (σ5.2 a0 27) x4.toNatClampNeg) &&& 31)) σ5))))) (f_X11_beatersOf_90 a0 H31 (f_X11_beatersOf_42 a0 H31 n) x1 x3 x4 x2 σ)))
theorem t_X11_beatersOf_42 (X : zX) (d : Nat) (hd : 3 ≤ d + 1) (a0 : Nat) (h0 : WM.2 a0 = (11, 0)) (H31 : Int32 → Int32 → Int32 → zS → Option (Int32 × zS)) (hH31 : ∀ (x1 : Int32) (x2 : Int32) (x3 : Int32) (σ : zS), zK X WM (zrm (d + 1)) M_X11_beatersOf (zZ X WM zeI) 31 [some (.ref a0), some (.int x1), some (.int x2), some (.int x3), none] [] σ (H31 x1 x2 x3 σ)) : ∀ (n : Nat) (x1 : Int32) (x2 : Int32) (x3 : Int32) (x4 : Int32) (σ : zS), zK X WM (zrm (d + 1)) M_X11_beatersOf (zZ X WM zeI) 42 [some (.ref a0), some (.int x1), some (.int x2), some (.int x3), some (.int x4)] [] σ (f_X11_beatersOf_42 a0 H31 n x1 x2 x3 x4 σ) := by
  intro n
  induction n with
  | zero => intro x1 x2 x3 x4 σ; exact z_none
  | succ n ih =>
    intro x1 x2 x3 x4 σ
    rw [f_X11_beatersOf_42]
    refine z_iload4 27 44 rfl rfl ?_
    refine z_aload0 28 45 rfl rfl ?_
    refine z_getI 29 48 28 rfl rfl zf_X11_281 rfl h0 ?_
    refine z_icmp_ge 30 51 99 rfl rfl (by decide) ?_ ?_
    · refine z_iinc3 58 102 rfl rfl ci_1 rfl (fun v3 => ?_)
      refine z_goto 59 31 rfl (by decide) ?_
      exact z_wk (zle_e (zle_e (zle_e (zle_e (zle_n zle_0))))) (hH31 x1 x2 v3 σ)
    · refine z_iload2 31 52 rfl rfl ?_
      refine z_aload0 32 53 rfl rfl ?_
      refine z_getR 33 56 27 rfl rfl zf_X11_47 rfl h0 ?_
      refine z_iload3 34 57 rfl rfl ?_
      refine z_iald 35 58 rfl rfl ?_
      refine z_iload1 36 59 rfl rfl ?_
      refine z_icmp_ne 37 62 90 rfl rfl (by decide) ?_ ?_
      · refine z_iload3 38 63 rfl rfl ?_
        refine z_iload4 39 65 rfl rfl ?_
        refine z_icmp_eq 40 68 90 rfl rfl (by decide) ?_ ?_
        · exact z_wk (zle_e (zle_e (zle_n (zle_e (zle_e zle_0))))) (t_X11_beatersOf_90 X d hd a0 h0 H31 hH31 (f_X11_beatersOf_42 a0 H31 n) ih x1 x3 x4 x2 σ)
        · refine z_aload0 41 69 rfl rfl ?_
          refine z_iload4 42 71 rfl rfl ?_
          refine z_iload3 43 72 rfl rfl ?_
          refine z_cV2I 44 75 rfl rfl zl_X11_295 F_X11_doesBeat (zR_rm (by omega)) (c_X11_doesBeat X d (by omega) a0 x4 x3 σ) ⟨by decide, rfl, rfl⟩ h0 rfl (Nat.le_of_ble_eq_true rfl) (fun r4 σ5 => ?_)
          refine z_if_eq 45 78 90 rfl rfl (by decide) ?_ ?_
          · exact z_wk (zle_e (zle_e (zle_n (zle_e (zle_e zle_0))))) (t_X11_beatersOf_90 X d hd a0 h0 H31 hH31 (f_X11_beatersOf_42 a0 H31 n) ih x1 x3 x4 x2 σ5)
          · refine z_iconst 46 79 rfl rfl ci_1 ?_
            refine z_aload0 47 80 rfl rfl ?_
            refine z_getR 48 83 27 rfl rfl zf_X11_47 rfl h0 ?_
            refine z_iload4 49 85 rfl rfl ?_
            refine z_iald 50 86 rfl rfl ?_
            refine z_ishl 51 87 rfl rfl ?_
            refine z_goto 52 91 rfl (by decide) ?_
            exact z_wk (zle_e (zle_e (zle_n (zle_e (zle_e zle_0))))) (t_X11_beatersOf_91 X d hd a0 h0 H31 hH31 (f_X11_beatersOf_42 a0 H31 n) ih x1 x3 x4 x2 ((1 : Int32) <<< ((σ5.1 (σ5.2 a0 27) x4.toNatClampNeg) &&& 31)) σ5)
      · exact z_wk (zle_e (zle_e (zle_n (zle_e (zle_e zle_0))))) (t_X11_beatersOf_90 X d hd a0 h0 H31 hH31 (f_X11_beatersOf_42 a0 H31 n) ih x1 x3 x4 x2 σ)
def f_X11_beatersOf_31 (a0 : Nat) : Nat → Int32 → Int32 → Int32 → zS → Option (Int32 × zS)
  | 0, _, _, _, _ => none
  | n + 1, x1, x2, x3, σ => zbr ((σ.1 a0 28) ≤ x3) (some (x2, σ)) (zlt (0 : Int32) (fun v6 => f_X11_beatersOf_42 a0 (f_X11_beatersOf_31 a0 n) FU x1 x2 x3 v6 σ))
theorem t_X11_beatersOf_31 (X : zX) (d : Nat) (hd : 3 ≤ d + 1) (a0 : Nat) (h0 : WM.2 a0 = (11, 0)) : ∀ (n : Nat) (x1 : Int32) (x2 : Int32) (x3 : Int32) (σ : zS), zK X WM (zrm (d + 1)) M_X11_beatersOf (zZ X WM zeI) 31 [some (.ref a0), some (.int x1), some (.int x2), some (.int x3), none] [] σ (f_X11_beatersOf_31 a0 n x1 x2 x3 σ) := by
  intro n
  induction n with
  | zero => intro x1 x2 x3 σ; exact z_none
  | succ n ih =>
    intro x1 x2 x3 σ
    rw [f_X11_beatersOf_31]
    refine z_iload3 21 32 rfl rfl ?_
    refine z_aload0 22 33 rfl rfl ?_
    refine z_getI 23 36 28 rfl rfl zf_X11_281 rfl h0 ?_
    refine z_icmp_ge 24 39 105 rfl rfl (by decide) ?_ ?_
    · refine z_iload2 60 106 rfl rfl ?_
      exact z_iret 61 rfl rfl
    · refine z_iconst 25 40 rfl rfl ci_0 ?_
      refine z_istore4 26 42 rfl rfl rfl (fun v6 => ?_)
      exact t_X11_beatersOf_42 X d hd a0 h0 (f_X11_beatersOf_31 a0 n) ih FU x1 x2 x3 v6 σ
def f_X11_beatersOf (a0 : Nat) (x1 : Int32) (σ : zS) : Option (Int32 × zS) := zck (WM.2 a0 = (11, 0)) (zlt (0 : Int32) (fun v7 => zck (zok 100 (WM.2 (σ.2 a0 19)) (((6 : Int32) * x1) + (2 : Int32))) (zck (zok 100 (WM.2 (σ.2 a0 19)) (48 : Int32)) (zbd (f_X11_layList a0 (σ.2 a0 19) (σ.1 (σ.2 a0 19) (((6 : Int32) * x1) + (2 : Int32)).toNatClampNeg) (σ.1 (σ.2 a0 19) (48 : Int32).toNatClampNeg) (0 : Int32) σ) (fun r8 σ9 => zlt (0 : Int32) (fun v10 => f_X11_beatersOf_31 a0 FU x1 v7 v10 σ9))))))
theorem c_X11_beatersOf (X : zX) (d : Nat) (hd : 3 ≤ d) (a0 : Nat) (x1 : Int32) (σ : zS) : ∀ (r : Int32) (σ' : zS), f_X11_beatersOf a0 x1 σ = some (r, σ') → zCN X WM d M_X11_beatersOf [.ref a0, .int x1] σ (zeI r, σ') := by
  obtain ⟨d, rfl⟩ : ∃ e, d = e + 1 := ⟨d - 1, by omega⟩
  refine z_entry [.ref a0, .int x1] (by decide +kernel) T_X11_beatersOf (Nat.le_of_ble_eq_true rfl) ?_
  show zK X WM (zrm (d + 1)) M_X11_beatersOf (zZ X WM zeI) 0 [some (.ref a0), some (.int x1), none, none, none] [] σ (f_X11_beatersOf a0 x1 σ)
  unfold f_X11_beatersOf
  refine z_ck (fun h0 => ?_)
  refine z_iconst 0 1 rfl rfl ci_0 ?_
  refine z_istore2 1 2 rfl rfl rfl (fun v7 => ?_)
  refine z_aload0 2 3 rfl rfl ?_
  refine z_aload0 3 4 rfl rfl ?_
  refine z_getR 4 7 19 rfl rfl zf_X11_32 rfl h0 ?_
  refine z_aload0 5 8 rfl rfl ?_
  refine z_getR 6 11 19 rfl rfl zf_X11_32 rfl h0 ?_
  refine z_bipush 7 13 rfl rfl cb_6 ?_
  refine z_iload1 8 14 rfl rfl ?_
  refine z_imul 9 15 rfl rfl ?_
  refine z_iconst 10 16 rfl rfl ci_2 ?_
  refine z_iadd 11 17 rfl rfl ?_
  refine z_iald 12 18 rfl rfl ?_
  refine z_aload0 13 19 rfl rfl ?_
  refine z_getR 14 22 19 rfl rfl zf_X11_32 rfl h0 ?_
  refine z_bipush 15 24 rfl rfl cb_48 ?_
  refine z_iald 16 25 rfl rfl ?_
  refine z_iconst 17 26 rfl rfl ci_0 ?_
  refine z_cV4V 18 29 rfl rfl zl_X11_301 F_X11_layList (zR_rm (by omega)) (c_X11_layList X d (by omega) a0 (σ.2 a0 19) (σ.1 (σ.2 a0 19) (((6 : Int32) * x1) + (2 : Int32)).toNatClampNeg) (σ.1 (σ.2 a0 19) (48 : Int32).toNatClampNeg) (0 : Int32) σ) ⟨by decide, rfl, rfl⟩ h0 rfl (Nat.le_of_ble_eq_true rfl) (fun r8 σ9 => ?_)
  refine z_iconst 19 30 rfl rfl ci_0 ?_
  refine z_istore3 20 31 rfl rfl rfl (fun v10 => ?_)
  exact t_X11_beatersOf_31 X d hd a0 h0  FU x1 v7 v10 σ9
def f_X11_line_22 (a0 : Nat)  (σ : zS) : Option (Int32 × zS) := zbd (f_X11_no a0 (1 : Int32) σ) (fun r1 σ2 => some (r1, σ2))
theorem t_X11_line_22 (X : zX) (d : Nat) (hd : 4 ≤ d + 1) (a0 : Nat) (h0 : WM.2 a0 = (11, 0))  (σ : zS) : zK X WM (zrm (d + 1)) M_X11_line (zZ X WM zeI) 22 [some (.ref a0), none, none] [] σ (f_X11_line_22 a0 σ) := by
  unfold f_X11_line_22
  refine z_aload0 11 23 rfl rfl ?_
  refine z_iconst 12 24 rfl rfl ci_1 ?_
  refine z_cV1I 13 27 rfl rfl zl_X11_181 F_X11_no (zR_rm (by omega)) (c_X11_no X d a0 (1 : Int32) σ) ⟨by decide, rfl, rfl⟩ h0 rfl (Nat.le_of_ble_eq_true rfl) (fun r1 σ2 => ?_)
  exact z_iret 14 rfl rfl
def f_X11_line (a0 : Nat) (x1 : Int32) (x2 : Int32) (σ : zS) : Option (Int32 × zS) := zck (WM.2 a0 = (11, 0)) (zbd (f_X11_good a0 σ) (fun r3 σ4 => zbd (f_X11_isLine a0 x1 σ4) (fun r5 σ6 => zbr (r5 = 0) (f_X11_line_22 a0 σ6) (zbd (f_X11_in x2 (0 : Int32) (7 : Int32) σ6) (fun r7 σ8 => zbr (r7 = 0) (f_X11_line_22 a0 σ8) (zbr ((6 : Int32) ≤ x2) (zbr (x2 = (6 : Int32)) (zbd (f_X11_isRead (σ8.2 a0 19) x1 σ8) (fun r9 σ10 => zbr (r9 = 0) (some ((0 : Int32), σ10)) (some ((1 : Int32), σ10)))) (zbd (f_X11_beatersOf a0 x1 σ8) (fun r11 σ12 => some (r11, σ12)))) (zck (zok 100 (WM.2 (σ8.2 a0 19)) (((6 : Int32) * x1) + x2)) (some ((σ8.1 (σ8.2 a0 19) (((6 : Int32) * x1) + x2).toNatClampNeg), σ8)))))))))
theorem c_X11_line (X : zX) (d : Nat) (hd : 4 ≤ d) (a0 : Nat) (x1 : Int32) (x2 : Int32) (σ : zS) : ∀ (r : Int32) (σ' : zS), f_X11_line a0 x1 x2 σ = some (r, σ') → zCN X WM d M_X11_line [.ref a0, .int x1, .int x2] σ (zeI r, σ') := by
  obtain ⟨d, rfl⟩ : ∃ e, d = e + 1 := ⟨d - 1, by omega⟩
  refine z_entry [.ref a0, .int x1, .int x2] (by decide +kernel) T_X11_line (Nat.le_of_ble_eq_true rfl) ?_
  show zK X WM (zrm (d + 1)) M_X11_line (zZ X WM zeI) 0 [some (.ref a0), some (.int x1), some (.int x2)] [] σ (f_X11_line a0 x1 x2 σ)
  unfold f_X11_line
  refine z_ck (fun h0 => ?_)
  refine z_aload0 0 1 rfl rfl ?_
  refine z_cV0V 1 4 rfl rfl zl_X11_178 F_X11_good (zR_rm (by omega)) (c_X11_good X d a0 σ) ⟨by decide, rfl, rfl⟩ h0 rfl (Nat.le_of_ble_eq_true rfl) (fun r3 σ4 => ?_)
  refine z_aload0 2 5 rfl rfl ?_
  refine z_iload1 3 6 rfl rfl ?_
  refine z_cV1I 4 9 rfl rfl zl_X11_330 F_X11_isLine (zR_rm (by omega)) (c_X11_isLine X d (by omega) a0 x1 σ4) ⟨by decide, rfl, rfl⟩ h0 rfl (Nat.le_of_ble_eq_true rfl) (fun r5 σ6 => ?_)
  refine z_if_eq 5 12 22 rfl rfl (by decide) ?_ ?_
  · exact z_wk (zle_e (zle_n (zle_n zle_0))) (t_X11_line_22 X d hd a0 h0  σ6)
  · refine z_iload2 6 13 rfl rfl ?_
    refine z_iconst 7 14 rfl rfl ci_0 ?_
    refine z_bipush 8 16 rfl rfl cb_7 ?_
    refine z_cS3I 9 19 rfl rfl zl_X11_157 F_X11_in (zR_rm (by omega)) (c_X11_in X d x2 (0 : Int32) (7 : Int32) σ6) rfl (Nat.le_of_ble_eq_true rfl) (fun r7 σ8 => ?_)
    refine z_if_ne 10 22 28 rfl rfl (by decide) ?_ ?_
    · exact z_wk (zle_e (zle_n (zle_n zle_0))) (t_X11_line_22 X d hd a0 h0  σ8)
    · refine z_iload2 15 29 rfl rfl ?_
      refine z_bipush 16 31 rfl rfl cb_6 ?_
      refine z_icmp_ge 17 34 48 rfl rfl (by decide) ?_ ?_
      · refine z_iload2 27 49 rfl rfl ?_
        refine z_bipush 28 51 rfl rfl cb_6 ?_
        refine z_icmp_ne 29 54 73 rfl rfl (by decide) ?_ ?_
        · refine z_aload0 30 55 rfl rfl ?_
          refine z_getR 31 58 19 rfl rfl zf_X11_32 rfl h0 ?_
          refine z_iload1 32 59 rfl rfl ?_
          refine z_cS2I 33 62 rfl rfl zl_X11_284 F_X11_isRead (zR_rm (by omega)) (c_X11_isRead X d (by omega) (σ8.2 a0 19) x1 σ8) rfl (Nat.le_of_ble_eq_true rfl) (fun r9 σ10 => ?_)
          refine z_if_eq 34 65 69 rfl rfl (by decide) ?_ ?_
          · refine z_iconst 37 70 rfl rfl ci_0 ?_
            refine z_goto 38 78 rfl (by decide) ?_
            exact z_iret 42 rfl rfl
          · refine z_iconst 35 66 rfl rfl ci_1 ?_
            refine z_goto 36 78 rfl (by decide) ?_
            exact z_iret 42 rfl rfl
        · refine z_aload0 39 74 rfl rfl ?_
          refine z_iload1 40 75 rfl rfl ?_
          refine z_cV1I 41 78 rfl rfl zl_X11_333 F_X11_beatersOf (zR_rm (by omega)) (c_X11_beatersOf X d (by omega) a0 x1 σ8) ⟨by decide, rfl, rfl⟩ h0 rfl (Nat.le_of_ble_eq_true rfl) (fun r11 σ12 => ?_)
          exact z_iret 42 rfl rfl
      · refine z_aload0 18 35 rfl rfl ?_
        refine z_getR 19 38 19 rfl rfl zf_X11_32 rfl h0 ?_
        refine z_bipush 20 40 rfl rfl cb_6 ?_
        refine z_iload1 21 41 rfl rfl ?_
        refine z_imul 22 42 rfl rfl ?_
        refine z_iload2 23 43 rfl rfl ?_
        refine z_iadd 24 44 rfl rfl ?_
        refine z_iald 25 45 rfl rfl ?_
        refine z_goto 26 78 rfl (by decide) ?_
        exact z_iret 42 rfl rfl
def f_X11_done (a0 : Nat) (x1 : Int32) (σ : zS) : Option (Int32 × zS) := zck (WM.2 a0 = (11, 0)) (zbd (f_X11_good a0 σ) (fun r1 σ2 => zbd (f_X11_isMatter a0 x1 σ2) (fun r3 σ4 => zbr (r3 = 0) (zbd (f_X11_no a0 (1 : Int32) σ4) (fun r5 σ6 => some (r5, σ6))) (zbd (f_X11_doneNow a0 x1 σ4) (fun r7 σ8 => some (r7, σ8))))))
theorem c_X11_done (X : zX) (d : Nat) (hd : 7 ≤ d) (a0 : Nat) (x1 : Int32) (σ : zS) : ∀ (r : Int32) (σ' : zS), f_X11_done a0 x1 σ = some (r, σ') → zCN X WM d M_X11_done [.ref a0, .int x1] σ (zeI r, σ') := by
  obtain ⟨d, rfl⟩ : ∃ e, d = e + 1 := ⟨d - 1, by omega⟩
  refine z_entry [.ref a0, .int x1] (by decide +kernel) T_X11_done (Nat.le_of_ble_eq_true rfl) ?_
  show zK X WM (zrm (d + 1)) M_X11_done (zZ X WM zeI) 0 [some (.ref a0), some (.int x1)] [] σ (f_X11_done a0 x1 σ)
  unfold f_X11_done
  refine z_ck (fun h0 => ?_)
  refine z_aload0 0 1 rfl rfl ?_
  refine z_cV0V 1 4 rfl rfl zl_X11_178 F_X11_good (zR_rm (by omega)) (c_X11_good X d a0 σ) ⟨by decide, rfl, rfl⟩ h0 rfl (Nat.le_of_ble_eq_true rfl) (fun r1 σ2 => ?_)
  refine z_aload0 2 5 rfl rfl ?_
  refine z_iload1 3 6 rfl rfl ?_
  refine z_cV1I 4 9 rfl rfl zl_X11_336 F_X11_isMatter (zR_rm (by omega)) (c_X11_isMatter X d (by omega) a0 x1 σ2) ⟨by decide, rfl, rfl⟩ h0 rfl (Nat.le_of_ble_eq_true rfl) (fun r3 σ4 => ?_)
  refine z_if_eq 5 12 20 rfl rfl (by decide) ?_ ?_
  · refine z_aload0 10 21 rfl rfl ?_
    refine z_iconst 11 22 rfl rfl ci_1 ?_
    refine z_cV1I 12 25 rfl rfl zl_X11_181 F_X11_no (zR_rm (by omega)) (c_X11_no X d a0 (1 : Int32) σ4) ⟨by decide, rfl, rfl⟩ h0 rfl (Nat.le_of_ble_eq_true rfl) (fun r5 σ6 => ?_)
    exact z_iret 13 rfl rfl
  · refine z_aload0 6 13 rfl rfl ?_
    refine z_iload1 7 14 rfl rfl ?_
    refine z_cV1I 8 17 rfl rfl zl_X11_339 F_X11_doneNow (zR_rm (by omega)) (c_X11_doneNow X d (by omega) a0 x1 σ4) ⟨by decide, rfl, rfl⟩ h0 rfl (Nat.le_of_ble_eq_true rfl) (fun r7 σ8 => ?_)
    refine z_goto 9 25 rfl (by decide) ?_
    exact z_iret 13 rfl rfl
def f_X11_stands (a0 : Nat) (x1 : Int32) (σ : zS) : Option (Int32 × zS) := zck (WM.2 a0 = (11, 0)) (zbd (f_X11_good a0 σ) (fun r1 σ2 => zbd (f_X11_isMatter a0 x1 σ2) (fun r3 σ4 => zbr (r3 = 0) (zbd (f_X11_no a0 (1 : Int32) σ4) (fun r5 σ6 => some (r5, σ6))) (zbd (f_X11_standsOf a0 x1 (0 : Int32) σ4) (fun r7 σ8 => some (r7, σ8))))))
theorem c_X11_stands (X : zX) (d : Nat) (hd : 5 ≤ d) (a0 : Nat) (x1 : Int32) (σ : zS) : ∀ (r : Int32) (σ' : zS), f_X11_stands a0 x1 σ = some (r, σ') → zCN X WM d M_X11_stands [.ref a0, .int x1] σ (zeI r, σ') := by
  obtain ⟨d, rfl⟩ : ∃ e, d = e + 1 := ⟨d - 1, by omega⟩
  refine z_entry [.ref a0, .int x1] (by decide +kernel) T_X11_stands (Nat.le_of_ble_eq_true rfl) ?_
  show zK X WM (zrm (d + 1)) M_X11_stands (zZ X WM zeI) 0 [some (.ref a0), some (.int x1)] [] σ (f_X11_stands a0 x1 σ)
  unfold f_X11_stands
  refine z_ck (fun h0 => ?_)
  refine z_aload0 0 1 rfl rfl ?_
  refine z_cV0V 1 4 rfl rfl zl_X11_178 F_X11_good (zR_rm (by omega)) (c_X11_good X d a0 σ) ⟨by decide, rfl, rfl⟩ h0 rfl (Nat.le_of_ble_eq_true rfl) (fun r1 σ2 => ?_)
  refine z_aload0 2 5 rfl rfl ?_
  refine z_iload1 3 6 rfl rfl ?_
  refine z_cV1I 4 9 rfl rfl zl_X11_336 F_X11_isMatter (zR_rm (by omega)) (c_X11_isMatter X d (by omega) a0 x1 σ2) ⟨by decide, rfl, rfl⟩ h0 rfl (Nat.le_of_ble_eq_true rfl) (fun r3 σ4 => ?_)
  refine z_if_eq 5 12 21 rfl rfl (by decide) ?_ ?_
  · refine z_aload0 11 22 rfl rfl ?_
    refine z_iconst 12 23 rfl rfl ci_1 ?_
    refine z_cV1I 13 26 rfl rfl zl_X11_181 F_X11_no (zR_rm (by omega)) (c_X11_no X d a0 (1 : Int32) σ4) ⟨by decide, rfl, rfl⟩ h0 rfl (Nat.le_of_ble_eq_true rfl) (fun r5 σ6 => ?_)
    exact z_iret 14 rfl rfl
  · refine z_aload0 6 13 rfl rfl ?_
    refine z_iload1 7 14 rfl rfl ?_
    refine z_iconst 8 15 rfl rfl ci_0 ?_
    refine z_cV2I 9 18 rfl rfl zl_X11_321 F_X11_standsOf (zR_rm (by omega)) (c_X11_standsOf X d (by omega) a0 x1 (0 : Int32) σ4) ⟨by decide, rfl, rfl⟩ h0 rfl (Nat.le_of_ble_eq_true rfl) (fun r7 σ8 => ?_)
    refine z_goto 10 26 rfl (by decide) ?_
    exact z_iret 14 rfl rfl
def f_X11_allDone_48 (a0 : Nat) (H21 : Int32 → Int32 → zS → Option (Int32 × zS)) (x2 : Int32) (s0 : Int32) (s1 : Int32) (σ : zS) : Option (Int32 × zS) := zlt (s0 ||| s1) (fun v1 => zlt (x2 + (1 : Int32)) (fun v2 => H21 v1 v2 σ))
theorem t_X11_allDone_48 (X : zX) (d : Nat) (hd : 7 ≤ d + 1) (a0 : Nat) (h0 : WM.2 a0 = (11, 0)) (H21 : Int32 → Int32 → zS → Option (Int32 × zS)) (hH21 : ∀ (x1 : Int32) (x2 : Int32) (σ : zS), zK X WM (zrm (d + 1)) M_X11_allDone (zZ X WM zeI) 21 [some (.ref a0), some (.int x1), some (.int x2)] [] σ (H21 x1 x2 σ)) (x2 : Int32) (s0 : Int32) (s1 : Int32) (σ : zS) : zK X WM (zrm (d + 1)) M_X11_allDone (zZ X WM zeI) 48 [some (.ref a0), none, some (.int x2)] [.int s1, .int s0] σ (f_X11_allDone_48 a0 H21 x2 s0 s1 σ) := by
  unfold f_X11_allDone_48
  refine z_ior 30 49 rfl rfl ?_
  refine z_istore1 31 50 rfl rfl rfl (fun v1 => ?_)
  refine z_iinc2 32 53 rfl rfl ci_1 rfl (fun v2 => ?_)
  refine z_goto 33 21 rfl (by decide) ?_
  exact hH21 v1 v2 σ
def f_X11_allDone_21 (a0 : Nat) : Nat → Int32 → Int32 → zS → Option (Int32 × zS)
  | 0, _, _, _ => none
  | n + 1, x1, x2, σ => zck (zok 100 (WM.2 (σ.2 a0 15)) (4 : Int32)) (zbr ((σ.1 (σ.2 a0 15) (4 : Int32).toNatClampNeg) ≤ x2) (some (x1, σ)) (zbd (f_X11_doneNow a0 x2 σ) (fun r3 σ4 => zbr (r3 = (1 : Int32)) (f_X11_allDone_48 a0 (f_X11_allDone_21 a0 n) x2 x1 ((1 : Int32) <<< (x2 &&& 31)) σ4) (f_X11_allDone_48 a0 (f_X11_allDone_21 a0 n) x2 x1 (0 : Int32) σ4))))
theorem t_X11_allDone_21 (X : zX) (d : Nat) (hd : 7 ≤ d + 1) (a0 : Nat) (h0 : WM.2 a0 = (11, 0)) : ∀ (n : Nat) (x1 : Int32) (x2 : Int32) (σ : zS), zK X WM (zrm (d + 1)) M_X11_allDone (zZ X WM zeI) 21 [some (.ref a0), some (.int x1), some (.int x2)] [] σ (f_X11_allDone_21 a0 n x1 x2 σ) := by
  intro n
  induction n with
  | zero => intro x1 x2 σ; exact z_none
  | succ n ih =>
    intro x1 x2 σ
    rw [f_X11_allDone_21]
    refine z_iload2 13 22 rfl rfl ?_
    refine z_aload0 14 23 rfl rfl ?_
    refine z_getR 15 26 15 rfl rfl zf_X11_20 rfl h0 ?_
    refine z_iconst 16 27 rfl rfl ci_4 ?_
    refine z_iald 17 28 rfl rfl ?_
    refine z_icmp_ge 18 31 56 rfl rfl (by decide) ?_ ?_
    · refine z_iload1 34 57 rfl rfl ?_
      exact z_iret 35 rfl rfl
    · refine z_iload1 19 32 rfl rfl ?_
      refine z_aload0 20 33 rfl rfl ?_
      refine z_iload2 21 34 rfl rfl ?_
      refine z_cV1I 22 37 rfl rfl zl_X11_339 F_X11_doneNow (zR_rm (by omega)) (c_X11_doneNow X d (by omega) a0 x2 σ) ⟨by decide, rfl, rfl⟩ h0 rfl (Nat.le_of_ble_eq_true rfl) (fun r3 σ4 => ?_)
      refine z_iconst 23 38 rfl rfl ci_1 ?_
      refine z_icmp_ne 24 41 47 rfl rfl (by decide) ?_ ?_
      · refine z_iconst 25 42 rfl rfl ci_1 ?_
        refine z_iload2 26 43 rfl rfl ?_
        refine z_ishl 27 44 rfl rfl ?_
        refine z_goto 28 48 rfl (by decide) ?_
        exact z_wk (zle_e (zle_n (zle_e zle_0))) (t_X11_allDone_48 X d hd a0 h0 (f_X11_allDone_21 a0 n) ih x2 x1 ((1 : Int32) <<< (x2 &&& 31)) σ4)
      · refine z_iconst 29 48 rfl rfl ci_0 ?_
        exact z_wk (zle_e (zle_n (zle_e zle_0))) (t_X11_allDone_48 X d hd a0 h0 (f_X11_allDone_21 a0 n) ih x2 x1 (0 : Int32) σ4)
def f_X11_allDone (a0 : Nat) (σ : zS) : Option (Int32 × zS) := zck (WM.2 a0 = (11, 0)) (zbd (f_X11_good a0 σ) (fun r5 σ6 => zbr ((σ6.1 a0 14) = 0) (zbd (f_X11_no a0 (1 : Int32) σ6) (fun r7 σ8 => some (r7, σ8))) (zlt (0 : Int32) (fun v9 => zlt (0 : Int32) (fun v10 => f_X11_allDone_21 a0 FU v9 v10 σ6)))))
theorem c_X11_allDone (X : zX) (d : Nat) (hd : 7 ≤ d) (a0 : Nat) (σ : zS) : ∀ (r : Int32) (σ' : zS), f_X11_allDone a0 σ = some (r, σ') → zCN X WM d M_X11_allDone [.ref a0] σ (zeI r, σ') := by
  obtain ⟨d, rfl⟩ : ∃ e, d = e + 1 := ⟨d - 1, by omega⟩
  refine z_entry [.ref a0] (by decide +kernel) T_X11_allDone (Nat.le_of_ble_eq_true rfl) ?_
  show zK X WM (zrm (d + 1)) M_X11_allDone (zZ X WM zeI) 0 [some (.ref a0), none, none] [] σ (f_X11_allDone a0 σ)
  unfold f_X11_allDone
  refine z_ck (fun h0 => ?_)
  refine z_aload0 0 1 rfl rfl ?_
  refine z_cV0V 1 4 rfl rfl zl_X11_178 F_X11_good (zR_rm (by omega)) (c_X11_good X d a0 σ) ⟨by decide, rfl, rfl⟩ h0 rfl (Nat.le_of_ble_eq_true rfl) (fun r5 σ6 => ?_)
  refine z_aload0 2 5 rfl rfl ?_
  refine z_getI 3 8 14 rfl rfl zf_X11_191 rfl h0 ?_
  refine z_if_ne 4 11 17 rfl rfl (by decide) ?_ ?_
  · refine z_aload0 5 12 rfl rfl ?_
    refine z_iconst 6 13 rfl rfl ci_1 ?_
    refine z_cV1I 7 16 rfl rfl zl_X11_181 F_X11_no (zR_rm (by omega)) (c_X11_no X d a0 (1 : Int32) σ6) ⟨by decide, rfl, rfl⟩ h0 rfl (Nat.le_of_ble_eq_true rfl) (fun r7 σ8 => ?_)
    exact z_iret 8 rfl rfl
  · refine z_iconst 9 18 rfl rfl ci_0 ?_
    refine z_istore1 10 19 rfl rfl rfl (fun v9 => ?_)
    refine z_iconst 11 20 rfl rfl ci_0 ?_
    refine z_istore2 12 21 rfl rfl rfl (fun v10 => ?_)
    exact t_X11_allDone_21 X d hd a0 h0  FU v9 v10 σ6
def f_X11_ruler_61 (a0 : Nat) (H22 : Int32 → Int32 → zS → Option (Int32 × zS)) (x1 : Int32) (x2 : Int32) (σ : zS) : Option (Int32 × zS) := zlt (x2 + (1 : Int32)) (fun v1 => H22 x1 v1 σ)
theorem t_X11_ruler_61 (X : zX) (d : Nat) (hd : 6 ≤ d + 1) (a0 : Nat) (h0 : WM.2 a0 = (11, 0)) (H22 : Int32 → Int32 → zS → Option (Int32 × zS)) (hH22 : ∀ (x1 : Int32) (x2 : Int32) (σ : zS), zK X WM (zrm (d + 1)) M_X11_ruler (zZ X WM zeI) 22 [some (.ref a0), some (.int x1), some (.int x2)] [] σ (H22 x1 x2 σ)) (x1 : Int32) (x2 : Int32) (σ : zS) : zK X WM (zrm (d + 1)) M_X11_ruler (zZ X WM zeI) 61 [some (.ref a0), some (.int x1), some (.int x2)] [] σ (f_X11_ruler_61 a0 H22 x1 x2 σ) := by
  unfold f_X11_ruler_61
  refine z_iinc2 34 64 rfl rfl ci_1 rfl (fun v1 => ?_)
  refine z_goto 35 22 rfl (by decide) ?_
  exact hH22 x1 v1 σ
def f_X11_ruler_56 (a0 : Nat) (H22 : Int32 → Int32 → zS → Option (Int32 × zS)) (x1 : Int32) (x2 : Int32) (s0 : Int32) (s1 : Int32) (σ : zS) : Option (Int32 × zS) := zbr (s0 ≤ s1) (f_X11_ruler_61 a0 H22 x1 x2 σ) (zlt x2 (fun v2 => f_X11_ruler_61 a0 H22 v2 x2 σ))
theorem t_X11_ruler_56 (X : zX) (d : Nat) (hd : 6 ≤ d + 1) (a0 : Nat) (h0 : WM.2 a0 = (11, 0)) (H22 : Int32 → Int32 → zS → Option (Int32 × zS)) (hH22 : ∀ (x1 : Int32) (x2 : Int32) (σ : zS), zK X WM (zrm (d + 1)) M_X11_ruler (zZ X WM zeI) 22 [some (.ref a0), some (.int x1), some (.int x2)] [] σ (H22 x1 x2 σ)) (x1 : Int32) (x2 : Int32) (s0 : Int32) (s1 : Int32) (σ : zS) : zK X WM (zrm (d + 1)) M_X11_ruler (zZ X WM zeI) 56 [some (.ref a0), some (.int x1), some (.int x2)] [.int s1, .int s0] σ (f_X11_ruler_56 a0 H22 x1 x2 s0 s1 σ) := by
  unfold f_X11_ruler_56
  refine z_icmp_le 31 59 61 rfl rfl (by decide) ?_ ?_
  · exact t_X11_ruler_61 X d hd a0 h0 H22 hH22 x1 x2 σ
  · refine z_iload2 32 60 rfl rfl ?_
    refine z_istore1 33 61 rfl rfl rfl (fun v2 => ?_)
    exact t_X11_ruler_61 X d hd a0 h0 H22 hH22 v2 x2 σ
def f_X11_ruler_22 (a0 : Nat) : Nat → Int32 → Int32 → zS → Option (Int32 × zS)
  | 0, _, _, _ => none
  | n + 1, x1, x2, σ => zck (zok 100 (WM.2 (σ.2 a0 15)) (3 : Int32)) (zbr ((σ.1 (σ.2 a0 15) (3 : Int32).toNatClampNeg) ≤ x2) (some (x1, σ)) (zbd (f_X11_ruledBy a0 x2 σ) (fun r3 σ4 => zbd (f_X11_ones r3 σ4) (fun r5 σ6 => zbr (0 ≤ x1) (zbd (f_X11_ruledBy a0 x1 σ6) (fun r7 σ8 => zbd (f_X11_ones r7 σ8) (fun r9 σ10 => f_X11_ruler_56 a0 (f_X11_ruler_22 a0 n) x1 x2 r5 r9 σ10))) (f_X11_ruler_56 a0 (f_X11_ruler_22 a0 n) x1 x2 r5 (0 : Int32) σ6)))))
theorem t_X11_ruler_22 (X : zX) (d : Nat) (hd : 6 ≤ d + 1) (a0 : Nat) (h0 : WM.2 a0 = (11, 0)) : ∀ (n : Nat) (x1 : Int32) (x2 : Int32) (σ : zS), zK X WM (zrm (d + 1)) M_X11_ruler (zZ X WM zeI) 22 [some (.ref a0), some (.int x1), some (.int x2)] [] σ (f_X11_ruler_22 a0 n x1 x2 σ) := by
  intro n
  induction n with
  | zero => intro x1 x2 σ; exact z_none
  | succ n ih =>
    intro x1 x2 σ
    rw [f_X11_ruler_22]
    refine z_iload2 13 23 rfl rfl ?_
    refine z_aload0 14 24 rfl rfl ?_
    refine z_getR 15 27 15 rfl rfl zf_X11_20 rfl h0 ?_
    refine z_iconst 16 28 rfl rfl ci_3 ?_
    refine z_iald 17 29 rfl rfl ?_
    refine z_icmp_ge 18 32 67 rfl rfl (by decide) ?_ ?_
    · refine z_iload1 36 68 rfl rfl ?_
      exact z_iret 37 rfl rfl
    · refine z_aload0 19 33 rfl rfl ?_
      refine z_iload2 20 34 rfl rfl ?_
      refine z_cV1I 21 37 rfl rfl zl_X11_327 F_X11_ruledBy (zR_rm (by omega)) (c_X11_ruledBy X d (by omega) a0 x2 σ) ⟨by decide, rfl, rfl⟩ h0 rfl (Nat.le_of_ble_eq_true rfl) (fun r3 σ4 => ?_)
      refine z_cS1I 22 40 rfl rfl zl_X11_342 F_X11_ones (zR_rm (by omega)) (c_X11_ones X d r3 σ4) rfl (Nat.le_of_ble_eq_true rfl) (fun r5 σ6 => ?_)
      refine z_iload1 23 41 rfl rfl ?_
      refine z_if_ge 24 44 48 rfl rfl (by decide) ?_ ?_
      · refine z_aload0 27 49 rfl rfl ?_
        refine z_iload1 28 50 rfl rfl ?_
        refine z_cV1I 29 53 rfl rfl zl_X11_327 F_X11_ruledBy (zR_rm (by omega)) (c_X11_ruledBy X d (by omega) a0 x1 σ6) ⟨by decide, rfl, rfl⟩ h0 rfl (Nat.le_of_ble_eq_true rfl) (fun r7 σ8 => ?_)
        refine z_cS1I 30 56 rfl rfl zl_X11_342 F_X11_ones (zR_rm (by omega)) (c_X11_ones X d r7 σ8) rfl (Nat.le_of_ble_eq_true rfl) (fun r9 σ10 => ?_)
        exact t_X11_ruler_56 X d hd a0 h0 (f_X11_ruler_22 a0 n) ih x1 x2 r5 r9 σ10
      · refine z_iconst 25 45 rfl rfl ci_0 ?_
        refine z_goto 26 56 rfl (by decide) ?_
        exact t_X11_ruler_56 X d hd a0 h0 (f_X11_ruler_22 a0 n) ih x1 x2 r5 (0 : Int32) σ6
def f_X11_ruler (a0 : Nat) (σ : zS) : Option (Int32 × zS) := zck (WM.2 a0 = (11, 0)) (zbd (f_X11_good a0 σ) (fun r11 σ12 => zbr ((σ12.1 a0 14) = 0) (zbd (f_X11_no a0 (1 : Int32) σ12) (fun r13 σ14 => some (r13, σ14))) (zlt (-2 : Int32) (fun v15 => zlt (0 : Int32) (fun v16 => f_X11_ruler_22 a0 FU v15 v16 σ12)))))
theorem c_X11_ruler (X : zX) (d : Nat) (hd : 6 ≤ d) (a0 : Nat) (σ : zS) : ∀ (r : Int32) (σ' : zS), f_X11_ruler a0 σ = some (r, σ') → zCN X WM d M_X11_ruler [.ref a0] σ (zeI r, σ') := by
  obtain ⟨d, rfl⟩ : ∃ e, d = e + 1 := ⟨d - 1, by omega⟩
  refine z_entry [.ref a0] (by decide +kernel) T_X11_ruler (Nat.le_of_ble_eq_true rfl) ?_
  show zK X WM (zrm (d + 1)) M_X11_ruler (zZ X WM zeI) 0 [some (.ref a0), none, none] [] σ (f_X11_ruler a0 σ)
  unfold f_X11_ruler
  refine z_ck (fun h0 => ?_)
  refine z_aload0 0 1 rfl rfl ?_
  refine z_cV0V 1 4 rfl rfl zl_X11_178 F_X11_good (zR_rm (by omega)) (c_X11_good X d a0 σ) ⟨by decide, rfl, rfl⟩ h0 rfl (Nat.le_of_ble_eq_true rfl) (fun r11 σ12 => ?_)
  refine z_aload0 2 5 rfl rfl ?_
  refine z_getI 3 8 14 rfl rfl zf_X11_191 rfl h0 ?_
  refine z_if_ne 4 11 17 rfl rfl (by decide) ?_ ?_
  · refine z_aload0 5 12 rfl rfl ?_
    refine z_iconst 6 13 rfl rfl ci_1 ?_
    refine z_cV1I 7 16 rfl rfl zl_X11_181 F_X11_no (zR_rm (by omega)) (c_X11_no X d a0 (1 : Int32) σ12) ⟨by decide, rfl, rfl⟩ h0 rfl (Nat.le_of_ble_eq_true rfl) (fun r13 σ14 => ?_)
    exact z_iret 8 rfl rfl
  · refine z_bipush 9 19 rfl rfl cb_m2 ?_
    refine z_istore1 10 20 rfl rfl rfl (fun v15 => ?_)
    refine z_iconst 11 21 rfl rfl ci_0 ?_
    refine z_istore2 12 22 rfl rfl rfl (fun v16 => ?_)
    exact t_X11_ruler_22 X d hd a0 h0  FU v15 v16 σ12
def f_X11_changedWithout_45 (a0 : Nat) (H4 : Int32 → Int32 → Int32 → zS → Option (Int32 × zS)) (x1 : Int32) (x3 : Int32) (s0 : Int32) (s1 : Int32) (σ : zS) : Option (Int32 × zS) := zlt (s0 + s1) (fun v1 => zlt (x3 + (1 : Int32)) (fun v2 => H4 x1 v1 v2 σ))
theorem t_X11_changedWithout_45 (X : zX) (d : Nat) (hd : 7 ≤ d + 1) (a0 : Nat) (h0 : WM.2 a0 = (11, 0)) (H4 : Int32 → Int32 → Int32 → zS → Option (Int32 × zS)) (hH4 : ∀ (x1 : Int32) (x2 : Int32) (x3 : Int32) (σ : zS), zK X WM (zrm (d + 1)) M_X11_changedWithout (zZ X WM zeI) 4 [some (.ref a0), some (.int x1), some (.int x2), some (.int x3)] [] σ (H4 x1 x2 x3 σ)) (x1 : Int32) (x3 : Int32) (s0 : Int32) (s1 : Int32) (σ : zS) : zK X WM (zrm (d + 1)) M_X11_changedWithout (zZ X WM zeI) 45 [some (.ref a0), some (.int x1), none, some (.int x3)] [.int s1, .int s0] σ (f_X11_changedWithout_45 a0 H4 x1 x3 s0 s1 σ) := by
  unfold f_X11_changedWithout_45
  refine z_iadd 28 46 rfl rfl ?_
  refine z_istore2 29 47 rfl rfl rfl (fun v1 => ?_)
  refine z_iinc3 30 50 rfl rfl ci_1 rfl (fun v2 => ?_)
  refine z_goto 31 4 rfl (by decide) ?_
  exact hH4 x1 v1 v2 σ
def f_X11_changedWithout_4 (a0 : Nat) : Nat → Int32 → Int32 → Int32 → zS → Option (Int32 × zS)
  | 0, _, _, _, _ => none
  | n + 1, x1, x2, x3, σ => zck (zok 100 (WM.2 (σ.2 a0 15)) (4 : Int32)) (zbr ((σ.1 (σ.2 a0 15) (4 : Int32).toNatClampNeg) ≤ x3) (some (x2, σ)) (zck (zok 100 (WM.2 (σ.2 a0 19)) (48 : Int32)) (zbd (f_X11_doneOf a0 (σ.2 a0 19) x3 (σ.1 (σ.2 a0 19) (48 : Int32).toNatClampNeg) x1 σ) (fun r3 σ4 => zbd (f_X11_doneNow a0 x3 σ4) (fun r5 σ6 => zbr (r3 = r5) (f_X11_changedWithout_45 a0 (f_X11_changedWithout_4 a0 n) x1 x3 x2 (0 : Int32) σ6) (f_X11_changedWithout_45 a0 (f_X11_changedWithout_4 a0 n) x1 x3 x2 (1 : Int32) σ6))))))
theorem t_X11_changedWithout_4 (X : zX) (d : Nat) (hd : 7 ≤ d + 1) (a0 : Nat) (h0 : WM.2 a0 = (11, 0)) : ∀ (n : Nat) (x1 : Int32) (x2 : Int32) (x3 : Int32) (σ : zS), zK X WM (zrm (d + 1)) M_X11_changedWithout (zZ X WM zeI) 4 [some (.ref a0), some (.int x1), some (.int x2), some (.int x3)] [] σ (f_X11_changedWithout_4 a0 n x1 x2 x3 σ) := by
  intro n
  induction n with
  | zero => intro x1 x2 x3 σ; exact z_none
  | succ n ih =>
    intro x1 x2 x3 σ
    rw [f_X11_changedWithout_4]
    refine z_iload3 4 5 rfl rfl ?_
    refine z_aload0 5 6 rfl rfl ?_
    refine z_getR 6 9 15 rfl rfl zf_X11_20 rfl h0 ?_
    refine z_iconst 7 10 rfl rfl ci_4 ?_
    refine z_iald 8 11 rfl rfl ?_
    refine z_icmp_ge 9 14 53 rfl rfl (by decide) ?_ ?_
    · refine z_iload2 32 54 rfl rfl ?_
      exact z_iret 33 rfl rfl
    · refine z_iload2 10 15 rfl rfl ?_
      refine z_aload0 11 16 rfl rfl ?_
      refine z_aload0 12 17 rfl rfl ?_
      refine z_getR 13 20 19 rfl rfl zf_X11_32 rfl h0 ?_
      refine z_iload3 14 21 rfl rfl ?_
      refine z_aload0 15 22 rfl rfl ?_
      refine z_getR 16 25 19 rfl rfl zf_X11_32 rfl h0 ?_
      refine z_bipush 17 27 rfl rfl cb_48 ?_
      refine z_iald 18 28 rfl rfl ?_
      refine z_iload1 19 29 rfl rfl ?_
      refine z_cV4I 20 32 rfl rfl zl_X11_308 F_X11_doneOf (zR_rm (by omega)) (c_X11_doneOf X d (by omega) a0 (σ.2 a0 19) x3 (σ.1 (σ.2 a0 19) (48 : Int32).toNatClampNeg) x1 σ) ⟨by decide, rfl, rfl⟩ h0 rfl (Nat.le_of_ble_eq_true rfl) (fun r3 σ4 => ?_)
      refine z_aload0 21 33 rfl rfl ?_
      refine z_iload3 22 34 rfl rfl ?_
      refine z_cV1I 23 37 rfl rfl zl_X11_339 F_X11_doneNow (zR_rm (by omega)) (c_X11_doneNow X d (by omega) a0 x3 σ4) ⟨by decide, rfl, rfl⟩ h0 rfl (Nat.le_of_ble_eq_true rfl) (fun r5 σ6 => ?_)
      refine z_icmp_ne 24 40 44 rfl rfl (by decide) ?_ ?_
      · refine z_iconst 25 41 rfl rfl ci_0 ?_
        refine z_goto 26 45 rfl (by decide) ?_
        exact z_wk (zle_e (zle_e (zle_n (zle_e zle_0)))) (t_X11_changedWithout_45 X d hd a0 h0 (f_X11_changedWithout_4 a0 n) ih x1 x3 x2 (0 : Int32) σ6)
      · refine z_iconst 27 45 rfl rfl ci_1 ?_
        exact z_wk (zle_e (zle_e (zle_n (zle_e zle_0)))) (t_X11_changedWithout_45 X d hd a0 h0 (f_X11_changedWithout_4 a0 n) ih x1 x3 x2 (1 : Int32) σ6)
def f_X11_changedWithout (a0 : Nat) (x1 : Int32) (σ : zS) : Option (Int32 × zS) := zck (WM.2 a0 = (11, 0)) (zlt (0 : Int32) (fun v7 => zlt (0 : Int32) (fun v8 => f_X11_changedWithout_4 a0 FU x1 v7 v8 σ)))
theorem c_X11_changedWithout (X : zX) (d : Nat) (hd : 7 ≤ d) (a0 : Nat) (x1 : Int32) (σ : zS) : ∀ (r : Int32) (σ' : zS), f_X11_changedWithout a0 x1 σ = some (r, σ') → zCN X WM d M_X11_changedWithout [.ref a0, .int x1] σ (zeI r, σ') := by
  obtain ⟨d, rfl⟩ : ∃ e, d = e + 1 := ⟨d - 1, by omega⟩
  refine z_entry [.ref a0, .int x1] (by decide +kernel) T_X11_changedWithout (Nat.le_of_ble_eq_true rfl) ?_
  show zK X WM (zrm (d + 1)) M_X11_changedWithout (zZ X WM zeI) 0 [some (.ref a0), some (.int x1), none, none] [] σ (f_X11_changedWithout a0 x1 σ)
  unfold f_X11_changedWithout
  refine z_ck (fun h0 => ?_)
  refine z_iconst 0 1 rfl rfl ci_0 ?_
  refine z_istore2 1 2 rfl rfl rfl (fun v7 => ?_)
  refine z_iconst 2 3 rfl rfl ci_0 ?_
  refine z_istore3 3 4 rfl rfl rfl (fun v8 => ?_)
  exact t_X11_changedWithout_4 X d hd a0 h0  FU x1 v7 v8 σ
def f_X11_power_59 (a0 : Nat) (H24 : Int32 → Int32 → Int32 → zS → Option (Int32 × zS)) (x1 : Int32) (x2 : Int32) (x3 : Int32) (σ : zS) : Option (Int32 × zS) := zlt (x3 + (1 : Int32)) (fun v1 => H24 x1 x2 v1 σ)
theorem t_X11_power_59 (X : zX) (d : Nat) (hd : 8 ≤ d + 1) (a0 : Nat) (h0 : WM.2 a0 = (11, 0)) (H24 : Int32 → Int32 → Int32 → zS → Option (Int32 × zS)) (hH24 : ∀ (x1 : Int32) (x2 : Int32) (x3 : Int32) (σ : zS), zK X WM (zrm (d + 1)) M_X11_power (zZ X WM zeI) 24 [some (.ref a0), some (.int x1), some (.int x2), some (.int x3), none] [] σ (H24 x1 x2 x3 σ)) (x1 : Int32) (x2 : Int32) (x3 : Int32) (σ : zS) : zK X WM (zrm (d + 1)) M_X11_power (zZ X WM zeI) 59 [some (.ref a0), some (.int x1), some (.int x2), some (.int x3), none] [] σ (f_X11_power_59 a0 H24 x1 x2 x3 σ) := by
  unfold f_X11_power_59
  refine z_iinc3 35 62 rfl rfl ci_1 rfl (fun v1 => ?_)
  refine z_goto 36 24 rfl (by decide) ?_
  exact hH24 x1 x2 v1 σ
def f_X11_power_24 (a0 : Nat) : Nat → Int32 → Int32 → Int32 → zS → Option (Int32 × zS)
  | 0, _, _, _, _ => none
  | n + 1, x1, x2, x3, σ => zck (zok 100 (WM.2 (σ.2 a0 15)) (3 : Int32)) (zbr ((σ.1 (σ.2 a0 15) (3 : Int32).toNatClampNeg) ≤ x3) (some (x1, σ)) (zbd (f_X11_linesOf a0 x3 σ) (fun r2 σ3 => zbd (f_X11_changedWithout a0 r2 σ3) (fun r4 σ5 => zlt r4 (fun v6 => zbr (x2 < v6) (zlt x3 (fun v7 => zlt v6 (fun v8 => f_X11_power_59 a0 (f_X11_power_24 a0 n) v7 v8 x3 σ5))) (f_X11_power_59 a0 (f_X11_power_24 a0 n) x1 x2 x3 σ5))))))
theorem t_X11_power_24 (X : zX) (d : Nat) (hd : 8 ≤ d + 1) (a0 : Nat) (h0 : WM.2 a0 = (11, 0)) : ∀ (n : Nat) (x1 : Int32) (x2 : Int32) (x3 : Int32) (σ : zS), zK X WM (zrm (d + 1)) M_X11_power (zZ X WM zeI) 24 [some (.ref a0), some (.int x1), some (.int x2), some (.int x3), none] [] σ (f_X11_power_24 a0 n x1 x2 x3 σ) := by
  intro n
  induction n with
  | zero => intro x1 x2 x3 σ; exact z_none
  | succ n ih =>
    intro x1 x2 x3 σ
    rw [f_X11_power_24]
    refine z_iload3 15 25 rfl rfl ?_
    refine z_aload0 16 26 rfl rfl ?_
    refine z_getR 17 29 15 rfl rfl zf_X11_20 rfl h0 ?_
    refine z_iconst 18 30 rfl rfl ci_3 ?_
    refine z_iald 19 31 rfl rfl ?_
    refine z_icmp_ge 20 34 65 rfl rfl (by decide) ?_ ?_
    · refine z_iload1 37 66 rfl rfl ?_
      exact z_iret 38 rfl rfl
    · refine z_aload0 21 35 rfl rfl ?_
      refine z_aload0 22 36 rfl rfl ?_
      refine z_iload3 23 37 rfl rfl ?_
      refine z_cV1I 24 40 rfl rfl zl_X11_324 F_X11_linesOf (zR_rm (by omega)) (c_X11_linesOf X d a0 x3 σ) ⟨by decide, rfl, rfl⟩ h0 rfl (Nat.le_of_ble_eq_true rfl) (fun r2 σ3 => ?_)
      refine z_cV1I 25 43 rfl rfl zl_X11_345 F_X11_changedWithout (zR_rm (by omega)) (c_X11_changedWithout X d (by omega) a0 r2 σ3) ⟨by decide, rfl, rfl⟩ h0 rfl (Nat.le_of_ble_eq_true rfl) (fun r4 σ5 => ?_)
      refine z_istore4 26 45 rfl rfl rfl (fun v6 => ?_)
      refine z_iload4 27 47 rfl rfl ?_
      refine z_iload2 28 48 rfl rfl ?_
      refine z_icmp_gt 29 51 54 rfl rfl (by decide) ?_ ?_
      · refine z_iload3 31 55 rfl rfl ?_
        refine z_istore1 32 56 rfl rfl rfl (fun v7 => ?_)
        refine z_iload4 33 58 rfl rfl ?_
        refine z_istore2 34 59 rfl rfl rfl (fun v8 => ?_)
        exact z_wk (zle_e (zle_e (zle_e (zle_e (zle_n zle_0))))) (t_X11_power_59 X d hd a0 h0 (f_X11_power_24 a0 n) ih v7 v8 x3 σ5)
      · refine z_goto 30 59 rfl (by decide) ?_
        exact z_wk (zle_e (zle_e (zle_e (zle_e (zle_n zle_0))))) (t_X11_power_59 X d hd a0 h0 (f_X11_power_24 a0 n) ih x1 x2 x3 σ5)
def f_X11_power (a0 : Nat) (σ : zS) : Option (Int32 × zS) := zck (WM.2 a0 = (11, 0)) (zbd (f_X11_good a0 σ) (fun r9 σ10 => zbr ((σ10.1 a0 14) = 0) (zbd (f_X11_no a0 (1 : Int32) σ10) (fun r11 σ12 => some (r11, σ12))) (zlt (-2 : Int32) (fun v13 => zlt (0 : Int32) (fun v14 => zlt (0 : Int32) (fun v15 => f_X11_power_24 a0 FU v13 v14 v15 σ10))))))
theorem c_X11_power (X : zX) (d : Nat) (hd : 8 ≤ d) (a0 : Nat) (σ : zS) : ∀ (r : Int32) (σ' : zS), f_X11_power a0 σ = some (r, σ') → zCN X WM d M_X11_power [.ref a0] σ (zeI r, σ') := by
  obtain ⟨d, rfl⟩ : ∃ e, d = e + 1 := ⟨d - 1, by omega⟩
  refine z_entry [.ref a0] (by decide +kernel) T_X11_power (Nat.le_of_ble_eq_true rfl) ?_
  show zK X WM (zrm (d + 1)) M_X11_power (zZ X WM zeI) 0 [some (.ref a0), none, none, none, none] [] σ (f_X11_power a0 σ)
  unfold f_X11_power
  refine z_ck (fun h0 => ?_)
  refine z_aload0 0 1 rfl rfl ?_
  refine z_cV0V 1 4 rfl rfl zl_X11_178 F_X11_good (zR_rm (by omega)) (c_X11_good X d a0 σ) ⟨by decide, rfl, rfl⟩ h0 rfl (Nat.le_of_ble_eq_true rfl) (fun r9 σ10 => ?_)
  refine z_aload0 2 5 rfl rfl ?_
  refine z_getI 3 8 14 rfl rfl zf_X11_191 rfl h0 ?_
  refine z_if_ne 4 11 17 rfl rfl (by decide) ?_ ?_
  · refine z_aload0 5 12 rfl rfl ?_
    refine z_iconst 6 13 rfl rfl ci_1 ?_
    refine z_cV1I 7 16 rfl rfl zl_X11_181 F_X11_no (zR_rm (by omega)) (c_X11_no X d a0 (1 : Int32) σ10) ⟨by decide, rfl, rfl⟩ h0 rfl (Nat.le_of_ble_eq_true rfl) (fun r11 σ12 => ?_)
    exact z_iret 8 rfl rfl
  · refine z_bipush 9 19 rfl rfl cb_m2 ?_
    refine z_istore1 10 20 rfl rfl rfl (fun v13 => ?_)
    refine z_iconst 11 21 rfl rfl ci_0 ?_
    refine z_istore2 12 22 rfl rfl rfl (fun v14 => ?_)
    refine z_iconst 13 23 rfl rfl ci_0 ?_
    refine z_istore3 14 24 rfl rfl rfl (fun v15 => ?_)
    exact t_X11_power_24 X d hd a0 h0  FU v13 v14 v15 σ10
def f_X11_why (a0 : Nat) (x1 : Int32) (x2 : Int32) (σ : zS) : Option (Int32 × zS) := zck (WM.2 a0 = (11, 0)) (zbr (x1 = 0) (some ((1 : Int32), σ)) (zbr (x2 = 0) (some ((2 : Int32), σ)) (some ((0 : Int32), σ))))
theorem c_X11_why (X : zX) (d : Nat) (a0 : Nat) (x1 : Int32) (x2 : Int32) (σ : zS) : ∀ (r : Int32) (σ' : zS), f_X11_why a0 x1 x2 σ = some (r, σ') → zCN X WM d M_X11_why [.ref a0, .int x1, .int x2] σ (zeI r, σ') := by
  refine z_entry [.ref a0, .int x1, .int x2] (by decide +kernel) T_X11_why (Nat.le_of_ble_eq_true rfl) ?_
  show zK X WM (zrm d) M_X11_why (zZ X WM zeI) 0 [some (.ref a0), some (.int x1), some (.int x2)] [] σ (f_X11_why a0 x1 x2 σ)
  unfold f_X11_why
  refine z_ck (fun h0 => ?_)
  refine z_iload1 0 1 rfl rfl ?_
  refine z_if_ne 1 4 8 rfl rfl (by decide) ?_ ?_
  · refine z_iconst 2 5 rfl rfl ci_1 ?_
    refine z_goto 3 17 rfl (by decide) ?_
    exact z_iret 9 rfl rfl
  · refine z_iload2 4 9 rfl rfl ?_
    refine z_if_eq 5 12 16 rfl rfl (by decide) ?_ ?_
    · refine z_iconst 8 17 rfl rfl ci_2 ?_
      exact z_iret 9 rfl rfl
    · refine z_iconst 6 13 rfl rfl ci_0 ?_
      refine z_goto 7 17 rfl (by decide) ?_
      exact z_iret 9 rfl rfl
def f_X11_doneBy (a0 : Nat) (x1 : Int32) (x2 : Int32) (σ : zS) : Option (Int32 × zS) := zck (WM.2 a0 = (11, 0)) (zbd (f_X11_good a0 σ) (fun r1 σ2 => zbd (f_X11_isMatter a0 x1 σ2) (fun r3 σ4 => zck (zok 100 (WM.2 (σ4.2 a0 19)) (48 : Int32)) (zbd (f_X11_in x2 (0 : Int32) (σ4.1 (σ4.2 a0 19) (48 : Int32).toNatClampNeg) σ4) (fun r5 σ6 => zbd (f_X11_why a0 r3 r5 σ6) (fun r7 σ8 => zlt r7 (fun v9 => zbr (v9 = 0) (zbd (f_X11_doneOf a0 (σ8.2 a0 19) x1 x2 (0 : Int32) σ8) (fun r10 σ11 => some (r10, σ11))) (zbd (f_X11_no a0 v9 σ8) (fun r12 σ13 => some (r12, σ13))))))))))
theorem c_X11_doneBy (X : zX) (d : Nat) (hd : 6 ≤ d) (a0 : Nat) (x1 : Int32) (x2 : Int32) (σ : zS) : ∀ (r : Int32) (σ' : zS), f_X11_doneBy a0 x1 x2 σ = some (r, σ') → zCN X WM d M_X11_doneBy [.ref a0, .int x1, .int x2] σ (zeI r, σ') := by
  obtain ⟨d, rfl⟩ : ∃ e, d = e + 1 := ⟨d - 1, by omega⟩
  refine z_entry [.ref a0, .int x1, .int x2] (by decide +kernel) T_X11_doneBy (Nat.le_of_ble_eq_true rfl) ?_
  show zK X WM (zrm (d + 1)) M_X11_doneBy (zZ X WM zeI) 0 [some (.ref a0), some (.int x1), some (.int x2), none] [] σ (f_X11_doneBy a0 x1 x2 σ)
  unfold f_X11_doneBy
  refine z_ck (fun h0 => ?_)
  refine z_aload0 0 1 rfl rfl ?_
  refine z_cV0V 1 4 rfl rfl zl_X11_178 F_X11_good (zR_rm (by omega)) (c_X11_good X d a0 σ) ⟨by decide, rfl, rfl⟩ h0 rfl (Nat.le_of_ble_eq_true rfl) (fun r1 σ2 => ?_)
  refine z_aload0 2 5 rfl rfl ?_
  refine z_aload0 3 6 rfl rfl ?_
  refine z_iload1 4 7 rfl rfl ?_
  refine z_cV1I 5 10 rfl rfl zl_X11_336 F_X11_isMatter (zR_rm (by omega)) (c_X11_isMatter X d (by omega) a0 x1 σ2) ⟨by decide, rfl, rfl⟩ h0 rfl (Nat.le_of_ble_eq_true rfl) (fun r3 σ4 => ?_)
  refine z_iload2 6 11 rfl rfl ?_
  refine z_iconst 7 12 rfl rfl ci_0 ?_
  refine z_aload0 8 13 rfl rfl ?_
  refine z_getR 9 16 19 rfl rfl zf_X11_32 rfl h0 ?_
  refine z_bipush 10 18 rfl rfl cb_48 ?_
  refine z_iald 11 19 rfl rfl ?_
  refine z_cS3I 12 22 rfl rfl zl_X11_157 F_X11_in (zR_rm (by omega)) (c_X11_in X d x2 (0 : Int32) (σ4.1 (σ4.2 a0 19) (48 : Int32).toNatClampNeg) σ4) rfl (Nat.le_of_ble_eq_true rfl) (fun r5 σ6 => ?_)
  refine z_cV2I 13 25 rfl rfl zl_X11_348 F_X11_why (zR_rm (by omega)) (c_X11_why X d a0 r3 r5 σ6) ⟨by decide, rfl, rfl⟩ h0 rfl (Nat.le_of_ble_eq_true rfl) (fun r7 σ8 => ?_)
  refine z_istore3 14 26 rfl rfl rfl (fun v9 => ?_)
  refine z_iload3 15 27 rfl rfl ?_
  refine z_if_eq 16 30 38 rfl rfl (by decide) ?_ ?_
  · refine z_aload0 21 39 rfl rfl ?_
    refine z_aload0 22 40 rfl rfl ?_
    refine z_getR 23 43 19 rfl rfl zf_X11_32 rfl h0 ?_
    refine z_iload1 24 44 rfl rfl ?_
    refine z_iload2 25 45 rfl rfl ?_
    refine z_iconst 26 46 rfl rfl ci_0 ?_
    refine z_cV4I 27 49 rfl rfl zl_X11_308 F_X11_doneOf (zR_rm (by omega)) (c_X11_doneOf X d (by omega) a0 (σ8.2 a0 19) x1 x2 (0 : Int32) σ8) ⟨by decide, rfl, rfl⟩ h0 rfl (Nat.le_of_ble_eq_true rfl) (fun r10 σ11 => ?_)
    exact z_iret 28 rfl rfl
  · refine z_aload0 17 31 rfl rfl ?_
    refine z_iload3 18 32 rfl rfl ?_
    refine z_cV1I 19 35 rfl rfl zl_X11_181 F_X11_no (zR_rm (by omega)) (c_X11_no X d a0 v9 σ8) ⟨by decide, rfl, rfl⟩ h0 rfl (Nat.le_of_ble_eq_true rfl) (fun r12 σ13 => ?_)
    refine z_goto 20 49 rfl (by decide) ?_
    exact z_iret 28 rfl rfl
def f_X11_changes_66 (a0 : Nat) (H22 : Int32 → Int32 → Int32 → zS → Option (Int32 × zS)) (x1 : Int32) (x3 : Int32) (s0 : Int32) (s1 : Int32) (σ : zS) : Option (Int32 × zS) := zlt (s0 + s1) (fun v1 => zlt (x3 + (1 : Int32)) (fun v2 => H22 x1 v1 v2 σ))
theorem t_X11_changes_66 (X : zX) (d : Nat) (hd : 6 ≤ d + 1) (a0 : Nat) (h0 : WM.2 a0 = (11, 0)) (H22 : Int32 → Int32 → Int32 → zS → Option (Int32 × zS)) (hH22 : ∀ (x1 : Int32) (x2 : Int32) (x3 : Int32) (σ : zS), zK X WM (zrm (d + 1)) M_X11_changes (zZ X WM zeI) 22 [some (.ref a0), some (.int x1), some (.int x2), some (.int x3)] [] σ (H22 x1 x2 x3 σ)) (x1 : Int32) (x3 : Int32) (s0 : Int32) (s1 : Int32) (σ : zS) : zK X WM (zrm (d + 1)) M_X11_changes (zZ X WM zeI) 66 [some (.ref a0), some (.int x1), none, some (.int x3)] [.int s1, .int s0] σ (f_X11_changes_66 a0 H22 x1 x3 s0 s1 σ) := by
  unfold f_X11_changes_66
  refine z_iadd 41 67 rfl rfl ?_
  refine z_istore2 42 68 rfl rfl rfl (fun v1 => ?_)
  refine z_iinc3 43 71 rfl rfl ci_1 rfl (fun v2 => ?_)
  refine z_goto 44 22 rfl (by decide) ?_
  exact hH22 x1 v1 v2 σ
def f_X11_changes_22 (a0 : Nat) : Nat → Int32 → Int32 → Int32 → zS → Option (Int32 × zS)
  | 0, _, _, _, _ => none
  | n + 1, x1, x2, x3, σ => zck (zok 100 (WM.2 (σ.2 a0 19)) (48 : Int32)) (zbr ((σ.1 (σ.2 a0 19) (48 : Int32).toNatClampNeg) < x3) (some (x2, σ)) (zbd (f_X11_doneOf a0 (σ.2 a0 19) x1 x3 (0 : Int32) σ) (fun r3 σ4 => zbd (f_X11_doneOf a0 (σ4.2 a0 19) x1 (x3 - (1 : Int32)) (0 : Int32) σ4) (fun r5 σ6 => zbr (r3 = r5) (f_X11_changes_66 a0 (f_X11_changes_22 a0 n) x1 x3 x2 (0 : Int32) σ6) (f_X11_changes_66 a0 (f_X11_changes_22 a0 n) x1 x3 x2 (1 : Int32) σ6)))))
theorem t_X11_changes_22 (X : zX) (d : Nat) (hd : 6 ≤ d + 1) (a0 : Nat) (h0 : WM.2 a0 = (11, 0)) : ∀ (n : Nat) (x1 : Int32) (x2 : Int32) (x3 : Int32) (σ : zS), zK X WM (zrm (d + 1)) M_X11_changes (zZ X WM zeI) 22 [some (.ref a0), some (.int x1), some (.int x2), some (.int x3)] [] σ (f_X11_changes_22 a0 n x1 x2 x3 σ) := by
  intro n
  induction n with
  | zero => intro x1 x2 x3 σ; exact z_none
  | succ n ih =>
    intro x1 x2 x3 σ
    rw [f_X11_changes_22]
    refine z_iload3 14 23 rfl rfl ?_
    refine z_aload0 15 24 rfl rfl ?_
    refine z_getR 16 27 19 rfl rfl zf_X11_32 rfl h0 ?_
    refine z_bipush 17 29 rfl rfl cb_48 ?_
    refine z_iald 18 30 rfl rfl ?_
    refine z_icmp_gt 19 33 74 rfl rfl (by decide) ?_ ?_
    · refine z_iload2 45 75 rfl rfl ?_
      exact z_iret 46 rfl rfl
    · refine z_iload2 20 34 rfl rfl ?_
      refine z_aload0 21 35 rfl rfl ?_
      refine z_aload0 22 36 rfl rfl ?_
      refine z_getR 23 39 19 rfl rfl zf_X11_32 rfl h0 ?_
      refine z_iload1 24 40 rfl rfl ?_
      refine z_iload3 25 41 rfl rfl ?_
      refine z_iconst 26 42 rfl rfl ci_0 ?_
      refine z_cV4I 27 45 rfl rfl zl_X11_308 F_X11_doneOf (zR_rm (by omega)) (c_X11_doneOf X d (by omega) a0 (σ.2 a0 19) x1 x3 (0 : Int32) σ) ⟨by decide, rfl, rfl⟩ h0 rfl (Nat.le_of_ble_eq_true rfl) (fun r3 σ4 => ?_)
      refine z_aload0 28 46 rfl rfl ?_
      refine z_aload0 29 47 rfl rfl ?_
      refine z_getR 30 50 19 rfl rfl zf_X11_32 rfl h0 ?_
      refine z_iload1 31 51 rfl rfl ?_
      refine z_iload3 32 52 rfl rfl ?_
      refine z_iconst 33 53 rfl rfl ci_1 ?_
      refine z_isub 34 54 rfl rfl ?_
      refine z_iconst 35 55 rfl rfl ci_0 ?_
      refine z_cV4I 36 58 rfl rfl zl_X11_308 F_X11_doneOf (zR_rm (by omega)) (c_X11_doneOf X d (by omega) a0 (σ4.2 a0 19) x1 (x3 - (1 : Int32)) (0 : Int32) σ4) ⟨by decide, rfl, rfl⟩ h0 rfl (Nat.le_of_ble_eq_true rfl) (fun r5 σ6 => ?_)
      refine z_icmp_ne 37 61 65 rfl rfl (by decide) ?_ ?_
      · refine z_iconst 38 62 rfl rfl ci_0 ?_
        refine z_goto 39 66 rfl (by decide) ?_
        exact z_wk (zle_e (zle_e (zle_n (zle_e zle_0)))) (t_X11_changes_66 X d hd a0 h0 (f_X11_changes_22 a0 n) ih x1 x3 x2 (0 : Int32) σ6)
      · refine z_iconst 40 66 rfl rfl ci_1 ?_
        exact z_wk (zle_e (zle_e (zle_n (zle_e zle_0)))) (t_X11_changes_66 X d hd a0 h0 (f_X11_changes_22 a0 n) ih x1 x3 x2 (1 : Int32) σ6)
def f_X11_changes (a0 : Nat) (x1 : Int32) (σ : zS) : Option (Int32 × zS) := zck (WM.2 a0 = (11, 0)) (zbd (f_X11_good a0 σ) (fun r7 σ8 => zbd (f_X11_isMatter a0 x1 σ8) (fun r9 σ10 => zbr (r9 = 0) (zbd (f_X11_no a0 (1 : Int32) σ10) (fun r11 σ12 => some (r11, σ12))) (zlt (0 : Int32) (fun v13 => zlt (1 : Int32) (fun v14 => f_X11_changes_22 a0 FU x1 v13 v14 σ10))))))
theorem c_X11_changes (X : zX) (d : Nat) (hd : 6 ≤ d) (a0 : Nat) (x1 : Int32) (σ : zS) : ∀ (r : Int32) (σ' : zS), f_X11_changes a0 x1 σ = some (r, σ') → zCN X WM d M_X11_changes [.ref a0, .int x1] σ (zeI r, σ') := by
  obtain ⟨d, rfl⟩ : ∃ e, d = e + 1 := ⟨d - 1, by omega⟩
  refine z_entry [.ref a0, .int x1] (by decide +kernel) T_X11_changes (Nat.le_of_ble_eq_true rfl) ?_
  show zK X WM (zrm (d + 1)) M_X11_changes (zZ X WM zeI) 0 [some (.ref a0), some (.int x1), none, none] [] σ (f_X11_changes a0 x1 σ)
  unfold f_X11_changes
  refine z_ck (fun h0 => ?_)
  refine z_aload0 0 1 rfl rfl ?_
  refine z_cV0V 1 4 rfl rfl zl_X11_178 F_X11_good (zR_rm (by omega)) (c_X11_good X d a0 σ) ⟨by decide, rfl, rfl⟩ h0 rfl (Nat.le_of_ble_eq_true rfl) (fun r7 σ8 => ?_)
  refine z_aload0 2 5 rfl rfl ?_
  refine z_iload1 3 6 rfl rfl ?_
  refine z_cV1I 4 9 rfl rfl zl_X11_336 F_X11_isMatter (zR_rm (by omega)) (c_X11_isMatter X d (by omega) a0 x1 σ8) ⟨by decide, rfl, rfl⟩ h0 rfl (Nat.le_of_ble_eq_true rfl) (fun r9 σ10 => ?_)
  refine z_if_ne 5 12 18 rfl rfl (by decide) ?_ ?_
  · refine z_aload0 6 13 rfl rfl ?_
    refine z_iconst 7 14 rfl rfl ci_1 ?_
    refine z_cV1I 8 17 rfl rfl zl_X11_181 F_X11_no (zR_rm (by omega)) (c_X11_no X d a0 (1 : Int32) σ10) ⟨by decide, rfl, rfl⟩ h0 rfl (Nat.le_of_ble_eq_true rfl) (fun r11 σ12 => ?_)
    exact z_iret 9 rfl rfl
  · refine z_iconst 10 19 rfl rfl ci_0 ?_
    refine z_istore2 11 20 rfl rfl rfl (fun v13 => ?_)
    refine z_iconst 12 21 rfl rfl ci_1 ?_
    refine z_istore3 13 22 rfl rfl rfl (fun v14 => ?_)
    exact t_X11_changes_22 X d hd a0 h0  FU x1 v13 v14 σ10
def f_X11_since_26 (a0 : Nat) : Nat → Int32 → Int32 → zS → Option (Int32 × zS)
  | 0, _, _, _ => none
  | n + 1, x1, x2, σ => zbr (x2 ≤ 0) (some (x2, σ)) (zbd (f_X11_doneOf a0 (σ.2 a0 19) x1 (x2 - (1 : Int32)) (0 : Int32) σ) (fun r1 σ2 => zbd (f_X11_doneNow a0 x1 σ2) (fun r3 σ4 => zbr (r1 = r3) (zlt (x2 + (-1 : Int32)) (fun v5 => f_X11_since_26 a0 n x1 v5 σ4)) (some (x2, σ4)))))
theorem t_X11_since_26 (X : zX) (d : Nat) (hd : 7 ≤ d + 1) (a0 : Nat) (h0 : WM.2 a0 = (11, 0)) : ∀ (n : Nat) (x1 : Int32) (x2 : Int32) (σ : zS), zK X WM (zrm (d + 1)) M_X11_since (zZ X WM zeI) 26 [some (.ref a0), some (.int x1), some (.int x2)] [] σ (f_X11_since_26 a0 n x1 x2 σ) := by
  intro n
  induction n with
  | zero => intro x1 x2 σ; exact z_none
  | succ n ih =>
    intro x1 x2 σ
    rw [f_X11_since_26]
    refine z_iload2 15 27 rfl rfl ?_
    refine z_if_le 16 30 57 rfl rfl (by decide) ?_ ?_
    · refine z_iload2 32 58 rfl rfl ?_
      exact z_iret 33 rfl rfl
    · refine z_aload0 17 31 rfl rfl ?_
      refine z_aload0 18 32 rfl rfl ?_
      refine z_getR 19 35 19 rfl rfl zf_X11_32 rfl h0 ?_
      refine z_iload1 20 36 rfl rfl ?_
      refine z_iload2 21 37 rfl rfl ?_
      refine z_iconst 22 38 rfl rfl ci_1 ?_
      refine z_isub 23 39 rfl rfl ?_
      refine z_iconst 24 40 rfl rfl ci_0 ?_
      refine z_cV4I 25 43 rfl rfl zl_X11_308 F_X11_doneOf (zR_rm (by omega)) (c_X11_doneOf X d (by omega) a0 (σ.2 a0 19) x1 (x2 - (1 : Int32)) (0 : Int32) σ) ⟨by decide, rfl, rfl⟩ h0 rfl (Nat.le_of_ble_eq_true rfl) (fun r1 σ2 => ?_)
      refine z_aload0 26 44 rfl rfl ?_
      refine z_iload1 27 45 rfl rfl ?_
      refine z_cV1I 28 48 rfl rfl zl_X11_339 F_X11_doneNow (zR_rm (by omega)) (c_X11_doneNow X d (by omega) a0 x1 σ2) ⟨by decide, rfl, rfl⟩ h0 rfl (Nat.le_of_ble_eq_true rfl) (fun r3 σ4 => ?_)
      refine z_icmp_ne 29 51 57 rfl rfl (by decide) ?_ ?_
      · refine z_iinc2 30 54 rfl rfl ci_m1 rfl (fun v5 => ?_)
        refine z_goto 31 26 rfl (by decide) ?_
        exact ih x1 v5 σ4
      · refine z_iload2 32 58 rfl rfl ?_
        exact z_iret 33 rfl rfl
def f_X11_since (a0 : Nat) (x1 : Int32) (σ : zS) : Option (Int32 × zS) := zck (WM.2 a0 = (11, 0)) (zbd (f_X11_good a0 σ) (fun r6 σ7 => zbd (f_X11_isMatter a0 x1 σ7) (fun r8 σ9 => zbr (r8 = 0) (zbd (f_X11_no a0 (1 : Int32) σ9) (fun r10 σ11 => some (r10, σ11))) (zck (zok 100 (WM.2 (σ9.2 a0 19)) (48 : Int32)) (zlt (σ9.1 (σ9.2 a0 19) (48 : Int32).toNatClampNeg) (fun v12 => f_X11_since_26 a0 FU x1 v12 σ9))))))
theorem c_X11_since (X : zX) (d : Nat) (hd : 7 ≤ d) (a0 : Nat) (x1 : Int32) (σ : zS) : ∀ (r : Int32) (σ' : zS), f_X11_since a0 x1 σ = some (r, σ') → zCN X WM d M_X11_since [.ref a0, .int x1] σ (zeI r, σ') := by
  obtain ⟨d, rfl⟩ : ∃ e, d = e + 1 := ⟨d - 1, by omega⟩
  refine z_entry [.ref a0, .int x1] (by decide +kernel) T_X11_since (Nat.le_of_ble_eq_true rfl) ?_
  show zK X WM (zrm (d + 1)) M_X11_since (zZ X WM zeI) 0 [some (.ref a0), some (.int x1), none] [] σ (f_X11_since a0 x1 σ)
  unfold f_X11_since
  refine z_ck (fun h0 => ?_)
  refine z_aload0 0 1 rfl rfl ?_
  refine z_cV0V 1 4 rfl rfl zl_X11_178 F_X11_good (zR_rm (by omega)) (c_X11_good X d a0 σ) ⟨by decide, rfl, rfl⟩ h0 rfl (Nat.le_of_ble_eq_true rfl) (fun r6 σ7 => ?_)
  refine z_aload0 2 5 rfl rfl ?_
  refine z_iload1 3 6 rfl rfl ?_
  refine z_cV1I 4 9 rfl rfl zl_X11_336 F_X11_isMatter (zR_rm (by omega)) (c_X11_isMatter X d (by omega) a0 x1 σ7) ⟨by decide, rfl, rfl⟩ h0 rfl (Nat.le_of_ble_eq_true rfl) (fun r8 σ9 => ?_)
  refine z_if_ne 5 12 18 rfl rfl (by decide) ?_ ?_
  · refine z_aload0 6 13 rfl rfl ?_
    refine z_iconst 7 14 rfl rfl ci_1 ?_
    refine z_cV1I 8 17 rfl rfl zl_X11_181 F_X11_no (zR_rm (by omega)) (c_X11_no X d a0 (1 : Int32) σ9) ⟨by decide, rfl, rfl⟩ h0 rfl (Nat.le_of_ble_eq_true rfl) (fun r10 σ11 => ?_)
    exact z_iret 9 rfl rfl
  · refine z_aload0 10 19 rfl rfl ?_
    refine z_getR 11 22 19 rfl rfl zf_X11_32 rfl h0 ?_
    refine z_bipush 12 24 rfl rfl cb_48 ?_
    refine z_iald 13 25 rfl rfl ?_
    refine z_istore2 14 26 rfl rfl rfl (fun v12 => ?_)
    exact t_X11_since_26 X d hd a0 h0  FU x1 v12 σ9
def f_X11_idle_61 (a0 : Nat) (H21 : Int32 → Int32 → zS → Option (Int32 × zS)) (x2 : Int32) (s0 : Int32) (s1 : Int32) (σ : zS) : Option (Int32 × zS) := zlt (s0 ||| s1) (fun v1 => zlt (x2 + (1 : Int32)) (fun v2 => H21 v1 v2 σ))
theorem t_X11_idle_61 (X : zX) (d : Nat) (hd : 8 ≤ d + 1) (a0 : Nat) (h0 : WM.2 a0 = (11, 0)) (H21 : Int32 → Int32 → zS → Option (Int32 × zS)) (hH21 : ∀ (x1 : Int32) (x2 : Int32) (σ : zS), zK X WM (zrm (d + 1)) M_X11_idle (zZ X WM zeI) 21 [some (.ref a0), some (.int x1), some (.int x2)] [] σ (H21 x1 x2 σ)) (x2 : Int32) (s0 : Int32) (s1 : Int32) (σ : zS) : zK X WM (zrm (d + 1)) M_X11_idle (zZ X WM zeI) 61 [some (.ref a0), none, some (.int x2)] [.int s1, .int s0] σ (f_X11_idle_61 a0 H21 x2 s0 s1 σ) := by
  unfold f_X11_idle_61
  refine z_ior 36 62 rfl rfl ?_
  refine z_istore1 37 63 rfl rfl rfl (fun v1 => ?_)
  refine z_iinc2 38 66 rfl rfl ci_1 rfl (fun v2 => ?_)
  refine z_goto 39 21 rfl (by decide) ?_
  exact hH21 v1 v2 σ
def f_X11_idle_60 (a0 : Nat) (H21 : Int32 → Int32 → zS → Option (Int32 × zS)) (x2 : Int32) (s0 : Int32) (σ : zS) : Option (Int32 × zS) := f_X11_idle_61 a0 H21 x2 s0 (0 : Int32) σ
theorem t_X11_idle_60 (X : zX) (d : Nat) (hd : 8 ≤ d + 1) (a0 : Nat) (h0 : WM.2 a0 = (11, 0)) (H21 : Int32 → Int32 → zS → Option (Int32 × zS)) (hH21 : ∀ (x1 : Int32) (x2 : Int32) (σ : zS), zK X WM (zrm (d + 1)) M_X11_idle (zZ X WM zeI) 21 [some (.ref a0), some (.int x1), some (.int x2)] [] σ (H21 x1 x2 σ)) (x2 : Int32) (s0 : Int32) (σ : zS) : zK X WM (zrm (d + 1)) M_X11_idle (zZ X WM zeI) 60 [some (.ref a0), none, some (.int x2)] [.int s0] σ (f_X11_idle_60 a0 H21 x2 s0 σ) := by
  unfold f_X11_idle_60
  refine z_iconst 35 61 rfl rfl ci_0 ?_
  exact t_X11_idle_61 X d hd a0 h0 H21 hH21 x2 s0 (0 : Int32) σ
def f_X11_idle_21 (a0 : Nat) : Nat → Int32 → Int32 → zS → Option (Int32 × zS)
  | 0, _, _, _ => none
  | n + 1, x1, x2, σ => zck (zok 100 (WM.2 (σ.2 a0 19)) (48 : Int32)) (zbr ((σ.1 (σ.2 a0 19) (48 : Int32).toNatClampNeg) ≤ x2) (some (x1, σ)) (zbd (f_X11_isRead (σ.2 a0 19) x2 σ) (fun r3 σ4 => zbr (r3 = 0) (f_X11_idle_60 a0 (f_X11_idle_21 a0 n) x2 x1 σ4) (zbd (f_X11_changedWithout a0 ((1 : Int32) <<< (x2 &&& 31)) σ4) (fun r5 σ6 => zbr (r5 = 0) (f_X11_idle_61 a0 (f_X11_idle_21 a0 n) x2 x1 ((1 : Int32) <<< (x2 &&& 31)) σ6) (f_X11_idle_60 a0 (f_X11_idle_21 a0 n) x2 x1 σ6))))))
theorem t_X11_idle_21 (X : zX) (d : Nat) (hd : 8 ≤ d + 1) (a0 : Nat) (h0 : WM.2 a0 = (11, 0)) : ∀ (n : Nat) (x1 : Int32) (x2 : Int32) (σ : zS), zK X WM (zrm (d + 1)) M_X11_idle (zZ X WM zeI) 21 [some (.ref a0), some (.int x1), some (.int x2)] [] σ (f_X11_idle_21 a0 n x1 x2 σ) := by
  intro n
  induction n with
  | zero => intro x1 x2 σ; exact z_none
  | succ n ih =>
    intro x1 x2 σ
    rw [f_X11_idle_21]
    refine z_iload2 13 22 rfl rfl ?_
    refine z_aload0 14 23 rfl rfl ?_
    refine z_getR 15 26 19 rfl rfl zf_X11_32 rfl h0 ?_
    refine z_bipush 16 28 rfl rfl cb_48 ?_
    refine z_iald 17 29 rfl rfl ?_
    refine z_icmp_ge 18 32 69 rfl rfl (by decide) ?_ ?_
    · refine z_iload1 40 70 rfl rfl ?_
      exact z_iret 41 rfl rfl
    · refine z_iload1 19 33 rfl rfl ?_
      refine z_aload0 20 34 rfl rfl ?_
      refine z_getR 21 37 19 rfl rfl zf_X11_32 rfl h0 ?_
      refine z_iload2 22 38 rfl rfl ?_
      refine z_cS2I 23 41 rfl rfl zl_X11_284 F_X11_isRead (zR_rm (by omega)) (c_X11_isRead X d (by omega) (σ.2 a0 19) x2 σ) rfl (Nat.le_of_ble_eq_true rfl) (fun r3 σ4 => ?_)
      refine z_if_eq 24 44 60 rfl rfl (by decide) ?_ ?_
      · exact z_wk (zle_e (zle_n (zle_e zle_0))) (t_X11_idle_60 X d hd a0 h0 (f_X11_idle_21 a0 n) ih x2 x1 σ4)
      · refine z_aload0 25 45 rfl rfl ?_
        refine z_iconst 26 46 rfl rfl ci_1 ?_
        refine z_iload2 27 47 rfl rfl ?_
        refine z_ishl 28 48 rfl rfl ?_
        refine z_cV1I 29 51 rfl rfl zl_X11_345 F_X11_changedWithout (zR_rm (by omega)) (c_X11_changedWithout X d (by omega) a0 ((1 : Int32) <<< (x2 &&& 31)) σ4) ⟨by decide, rfl, rfl⟩ h0 rfl (Nat.le_of_ble_eq_true rfl) (fun r5 σ6 => ?_)
        refine z_if_ne 30 54 60 rfl rfl (by decide) ?_ ?_
        · refine z_iconst 31 55 rfl rfl ci_1 ?_
          refine z_iload2 32 56 rfl rfl ?_
          refine z_ishl 33 57 rfl rfl ?_
          refine z_goto 34 61 rfl (by decide) ?_
          exact z_wk (zle_e (zle_n (zle_e zle_0))) (t_X11_idle_61 X d hd a0 h0 (f_X11_idle_21 a0 n) ih x2 x1 ((1 : Int32) <<< (x2 &&& 31)) σ6)
        · exact z_wk (zle_e (zle_n (zle_e zle_0))) (t_X11_idle_60 X d hd a0 h0 (f_X11_idle_21 a0 n) ih x2 x1 σ6)
def f_X11_idle (a0 : Nat) (σ : zS) : Option (Int32 × zS) := zck (WM.2 a0 = (11, 0)) (zbd (f_X11_good a0 σ) (fun r7 σ8 => zbr ((σ8.1 a0 14) = 0) (zbd (f_X11_no a0 (1 : Int32) σ8) (fun r9 σ10 => some (r9, σ10))) (zlt (0 : Int32) (fun v11 => zlt (0 : Int32) (fun v12 => f_X11_idle_21 a0 FU v11 v12 σ8)))))
theorem c_X11_idle (X : zX) (d : Nat) (hd : 8 ≤ d) (a0 : Nat) (σ : zS) : ∀ (r : Int32) (σ' : zS), f_X11_idle a0 σ = some (r, σ') → zCN X WM d M_X11_idle [.ref a0] σ (zeI r, σ') := by
  obtain ⟨d, rfl⟩ : ∃ e, d = e + 1 := ⟨d - 1, by omega⟩
  refine z_entry [.ref a0] (by decide +kernel) T_X11_idle (Nat.le_of_ble_eq_true rfl) ?_
  show zK X WM (zrm (d + 1)) M_X11_idle (zZ X WM zeI) 0 [some (.ref a0), none, none] [] σ (f_X11_idle a0 σ)
  unfold f_X11_idle
  refine z_ck (fun h0 => ?_)
  refine z_aload0 0 1 rfl rfl ?_
  refine z_cV0V 1 4 rfl rfl zl_X11_178 F_X11_good (zR_rm (by omega)) (c_X11_good X d a0 σ) ⟨by decide, rfl, rfl⟩ h0 rfl (Nat.le_of_ble_eq_true rfl) (fun r7 σ8 => ?_)
  refine z_aload0 2 5 rfl rfl ?_
  refine z_getI 3 8 14 rfl rfl zf_X11_191 rfl h0 ?_
  refine z_if_ne 4 11 17 rfl rfl (by decide) ?_ ?_
  · refine z_aload0 5 12 rfl rfl ?_
    refine z_iconst 6 13 rfl rfl ci_1 ?_
    refine z_cV1I 7 16 rfl rfl zl_X11_181 F_X11_no (zR_rm (by omega)) (c_X11_no X d a0 (1 : Int32) σ8) ⟨by decide, rfl, rfl⟩ h0 rfl (Nat.le_of_ble_eq_true rfl) (fun r9 σ10 => ?_)
    exact z_iret 8 rfl rfl
  · refine z_iconst 9 18 rfl rfl ci_0 ?_
    refine z_istore1 10 19 rfl rfl rfl (fun v11 => ?_)
    refine z_iconst 11 20 rfl rfl ci_0 ?_
    refine z_istore2 12 21 rfl rfl rfl (fun v12 => ?_)
    exact t_X11_idle_21 X d hd a0 h0  FU v11 v12 σ8
def f_X11_allRead_34 (a0 : Nat) (H4 : Int32 → Int32 → zS → Option (Int32 × zS)) (x2 : Int32) (s0 : Int32) (s1 : Int32) (σ : zS) : Option (Int32 × zS) := zlt (s0 ||| s1) (fun v1 => zlt (x2 + (1 : Int32)) (fun v2 => H4 v1 v2 σ))
theorem t_X11_allRead_34 (X : zX) (d : Nat) (hd : 2 ≤ d + 1) (a0 : Nat) (h0 : WM.2 a0 = (11, 0)) (H4 : Int32 → Int32 → zS → Option (Int32 × zS)) (hH4 : ∀ (x1 : Int32) (x2 : Int32) (σ : zS), zK X WM (zrm (d + 1)) M_X11_allRead (zZ X WM zeI) 4 [some (.ref a0), some (.int x1), some (.int x2)] [] σ (H4 x1 x2 σ)) (x2 : Int32) (s0 : Int32) (s1 : Int32) (σ : zS) : zK X WM (zrm (d + 1)) M_X11_allRead (zZ X WM zeI) 34 [some (.ref a0), none, some (.int x2)] [.int s1, .int s0] σ (f_X11_allRead_34 a0 H4 x2 s0 s1 σ) := by
  unfold f_X11_allRead_34
  refine z_ior 21 35 rfl rfl ?_
  refine z_istore1 22 36 rfl rfl rfl (fun v1 => ?_)
  refine z_iinc2 23 39 rfl rfl ci_1 rfl (fun v2 => ?_)
  refine z_goto 24 4 rfl (by decide) ?_
  exact hH4 v1 v2 σ
def f_X11_allRead_4 (a0 : Nat) : Nat → Int32 → Int32 → zS → Option (Int32 × zS)
  | 0, _, _, _ => none
  | n + 1, x1, x2, σ => zck (zok 100 (WM.2 (σ.2 a0 19)) (48 : Int32)) (zbr ((σ.1 (σ.2 a0 19) (48 : Int32).toNatClampNeg) ≤ x2) (some (x1, σ)) (zbd (f_X11_isRead (σ.2 a0 19) x2 σ) (fun r3 σ4 => zbr (r3 = 0) (f_X11_allRead_34 a0 (f_X11_allRead_4 a0 n) x2 x1 (0 : Int32) σ4) (f_X11_allRead_34 a0 (f_X11_allRead_4 a0 n) x2 x1 ((1 : Int32) <<< (x2 &&& 31)) σ4))))
theorem t_X11_allRead_4 (X : zX) (d : Nat) (hd : 2 ≤ d + 1) (a0 : Nat) (h0 : WM.2 a0 = (11, 0)) : ∀ (n : Nat) (x1 : Int32) (x2 : Int32) (σ : zS), zK X WM (zrm (d + 1)) M_X11_allRead (zZ X WM zeI) 4 [some (.ref a0), some (.int x1), some (.int x2)] [] σ (f_X11_allRead_4 a0 n x1 x2 σ) := by
  intro n
  induction n with
  | zero => intro x1 x2 σ; exact z_none
  | succ n ih =>
    intro x1 x2 σ
    rw [f_X11_allRead_4]
    refine z_iload2 4 5 rfl rfl ?_
    refine z_aload0 5 6 rfl rfl ?_
    refine z_getR 6 9 19 rfl rfl zf_X11_32 rfl h0 ?_
    refine z_bipush 7 11 rfl rfl cb_48 ?_
    refine z_iald 8 12 rfl rfl ?_
    refine z_icmp_ge 9 15 42 rfl rfl (by decide) ?_ ?_
    · refine z_iload1 25 43 rfl rfl ?_
      exact z_iret 26 rfl rfl
    · refine z_iload1 10 16 rfl rfl ?_
      refine z_aload0 11 17 rfl rfl ?_
      refine z_getR 12 20 19 rfl rfl zf_X11_32 rfl h0 ?_
      refine z_iload2 13 21 rfl rfl ?_
      refine z_cS2I 14 24 rfl rfl zl_X11_284 F_X11_isRead (zR_rm (by omega)) (c_X11_isRead X d (by omega) (σ.2 a0 19) x2 σ) rfl (Nat.le_of_ble_eq_true rfl) (fun r3 σ4 => ?_)
      refine z_if_eq 15 27 33 rfl rfl (by decide) ?_ ?_
      · refine z_iconst 20 34 rfl rfl ci_0 ?_
        exact z_wk (zle_e (zle_n (zle_e zle_0))) (t_X11_allRead_34 X d hd a0 h0 (f_X11_allRead_4 a0 n) ih x2 x1 (0 : Int32) σ4)
      · refine z_iconst 16 28 rfl rfl ci_1 ?_
        refine z_iload2 17 29 rfl rfl ?_
        refine z_ishl 18 30 rfl rfl ?_
        refine z_goto 19 34 rfl (by decide) ?_
        exact z_wk (zle_e (zle_n (zle_e zle_0))) (t_X11_allRead_34 X d hd a0 h0 (f_X11_allRead_4 a0 n) ih x2 x1 ((1 : Int32) <<< (x2 &&& 31)) σ4)
def f_X11_allRead (a0 : Nat) (σ : zS) : Option (Int32 × zS) := zck (WM.2 a0 = (11, 0)) (zlt (0 : Int32) (fun v5 => zlt (0 : Int32) (fun v6 => f_X11_allRead_4 a0 FU v5 v6 σ)))
theorem c_X11_allRead (X : zX) (d : Nat) (hd : 2 ≤ d) (a0 : Nat) (σ : zS) : ∀ (r : Int32) (σ' : zS), f_X11_allRead a0 σ = some (r, σ') → zCN X WM d M_X11_allRead [.ref a0] σ (zeI r, σ') := by
  obtain ⟨d, rfl⟩ : ∃ e, d = e + 1 := ⟨d - 1, by omega⟩
  refine z_entry [.ref a0] (by decide +kernel) T_X11_allRead (Nat.le_of_ble_eq_true rfl) ?_
  show zK X WM (zrm (d + 1)) M_X11_allRead (zZ X WM zeI) 0 [some (.ref a0), none, none] [] σ (f_X11_allRead a0 σ)
  unfold f_X11_allRead
  refine z_ck (fun h0 => ?_)
  refine z_iconst 0 1 rfl rfl ci_0 ?_
  refine z_istore1 1 2 rfl rfl rfl (fun v5 => ?_)
  refine z_iconst 2 3 rfl rfl ci_0 ?_
  refine z_istore2 3 4 rfl rfl rfl (fun v6 => ?_)
  exact t_X11_allRead_4 X d hd a0 h0  FU v5 v6 σ
def f_X11_turnOf_71 (a0 : Nat) (H5 : Int32 → Int32 → Int32 → zS → Option (Int32 × zS)) (x1 : Int32) (x2 : Int32) (x3 : Int32) (σ : zS) : Option (Int32 × zS) := zlt (x3 + (1 : Int32)) (fun v1 => H5 x1 x2 v1 σ)
theorem t_X11_turnOf_71 (X : zX) (d : Nat) (hd : 7 ≤ d + 1) (a0 : Nat) (h0 : WM.2 a0 = (11, 0)) (H5 : Int32 → Int32 → Int32 → zS → Option (Int32 × zS)) (hH5 : ∀ (x1 : Int32) (x2 : Int32) (x3 : Int32) (σ : zS), zK X WM (zrm (d + 1)) M_X11_turnOf (zZ X WM zeI) 5 [some (.ref a0), some (.int x1), some (.int x2), some (.int x3)] [] σ (H5 x1 x2 x3 σ)) (x1 : Int32) (x2 : Int32) (x3 : Int32) (σ : zS) : zK X WM (zrm (d + 1)) M_X11_turnOf (zZ X WM zeI) 71 [some (.ref a0), some (.int x1), some (.int x2), some (.int x3)] [] σ (f_X11_turnOf_71 a0 H5 x1 x2 x3 σ) := by
  unfold f_X11_turnOf_71
  refine z_iinc3 42 74 rfl rfl ci_1 rfl (fun v1 => ?_)
  refine z_goto 43 5 rfl (by decide) ?_
  exact hH5 x1 x2 v1 σ
def f_X11_turnOf_44 (a0 : Nat) (H5 : Int32 → Int32 → Int32 → zS → Option (Int32 × zS)) (x1 : Int32) (x2 : Int32) (x3 : Int32) (σ : zS) : Option (Int32 × zS) := zck (zok 100 (WM.2 (σ.2 a0 19)) (48 : Int32)) (zbd (f_X11_doneOf a0 (σ.2 a0 19) x1 (σ.1 (σ.2 a0 19) (48 : Int32).toNatClampNeg) x3 σ) (fun r2 σ3 => zbd (f_X11_doneNow a0 x1 σ3) (fun r4 σ5 => zbr (r2 = r4) (f_X11_turnOf_71 a0 H5 x1 x2 x3 σ5) (zlt x3 (fun v6 => f_X11_turnOf_71 a0 H5 x1 v6 x3 σ5)))))
theorem t_X11_turnOf_44 (X : zX) (d : Nat) (hd : 7 ≤ d + 1) (a0 : Nat) (h0 : WM.2 a0 = (11, 0)) (H5 : Int32 → Int32 → Int32 → zS → Option (Int32 × zS)) (hH5 : ∀ (x1 : Int32) (x2 : Int32) (x3 : Int32) (σ : zS), zK X WM (zrm (d + 1)) M_X11_turnOf (zZ X WM zeI) 5 [some (.ref a0), some (.int x1), some (.int x2), some (.int x3)] [] σ (H5 x1 x2 x3 σ)) (x1 : Int32) (x2 : Int32) (x3 : Int32) (σ : zS) : zK X WM (zrm (d + 1)) M_X11_turnOf (zZ X WM zeI) 44 [some (.ref a0), some (.int x1), some (.int x2), some (.int x3)] [] σ (f_X11_turnOf_44 a0 H5 x1 x2 x3 σ) := by
  unfold f_X11_turnOf_44
  refine z_aload0 26 45 rfl rfl ?_
  refine z_aload0 27 46 rfl rfl ?_
  refine z_getR 28 49 19 rfl rfl zf_X11_32 rfl h0 ?_
  refine z_iload1 29 50 rfl rfl ?_
  refine z_aload0 30 51 rfl rfl ?_
  refine z_getR 31 54 19 rfl rfl zf_X11_32 rfl h0 ?_
  refine z_bipush 32 56 rfl rfl cb_48 ?_
  refine z_iald 33 57 rfl rfl ?_
  refine z_iload3 34 58 rfl rfl ?_
  refine z_cV4I 35 61 rfl rfl zl_X11_308 F_X11_doneOf (zR_rm (by omega)) (c_X11_doneOf X d (by omega) a0 (σ.2 a0 19) x1 (σ.1 (σ.2 a0 19) (48 : Int32).toNatClampNeg) x3 σ) ⟨by decide, rfl, rfl⟩ h0 rfl (Nat.le_of_ble_eq_true rfl) (fun r2 σ3 => ?_)
  refine z_aload0 36 62 rfl rfl ?_
  refine z_iload1 37 63 rfl rfl ?_
  refine z_cV1I 38 66 rfl rfl zl_X11_339 F_X11_doneNow (zR_rm (by omega)) (c_X11_doneNow X d (by omega) a0 x1 σ3) ⟨by decide, rfl, rfl⟩ h0 rfl (Nat.le_of_ble_eq_true rfl) (fun r4 σ5 => ?_)
  refine z_icmp_eq 39 69 71 rfl rfl (by decide) ?_ ?_
  · exact t_X11_turnOf_71 X d hd a0 h0 H5 hH5 x1 x2 x3 σ5
  · refine z_iload3 40 70 rfl rfl ?_
    refine z_istore2 41 71 rfl rfl rfl (fun v6 => ?_)
    exact t_X11_turnOf_71 X d hd a0 h0 H5 hH5 x1 v6 x3 σ5
def f_X11_turnOf_5 (a0 : Nat) : Nat → Int32 → Int32 → Int32 → zS → Option (Int32 × zS)
  | 0, _, _, _, _ => none
  | n + 1, x1, x2, x3, σ => zck (zok 100 (WM.2 (σ.2 a0 19)) (48 : Int32)) (zbr (((1 : Int32) <<< ((σ.1 (σ.2 a0 19) (48 : Int32).toNatClampNeg) &&& 31)) ≤ x3) (some (x2, σ)) (zbd (f_X11_allRead a0 σ) (fun r7 σ8 => zbr ((x3 &&& (r7 ^^^ (-1 : Int32))) = 0) (zbr (x2 < 0) (f_X11_turnOf_44 a0 (f_X11_turnOf_5 a0 n) x1 x2 x3 σ8) (zbd (f_X11_ones x3 σ8) (fun r9 σ10 => zbd (f_X11_ones x2 σ10) (fun r11 σ12 => zbr (r11 ≤ r9) (f_X11_turnOf_71 a0 (f_X11_turnOf_5 a0 n) x1 x2 x3 σ12) (f_X11_turnOf_44 a0 (f_X11_turnOf_5 a0 n) x1 x2 x3 σ12))))) (f_X11_turnOf_71 a0 (f_X11_turnOf_5 a0 n) x1 x2 x3 σ8))))
theorem t_X11_turnOf_5 (X : zX) (d : Nat) (hd : 7 ≤ d + 1) (a0 : Nat) (h0 : WM.2 a0 = (11, 0)) : ∀ (n : Nat) (x1 : Int32) (x2 : Int32) (x3 : Int32) (σ : zS), zK X WM (zrm (d + 1)) M_X11_turnOf (zZ X WM zeI) 5 [some (.ref a0), some (.int x1), some (.int x2), some (.int x3)] [] σ (f_X11_turnOf_5 a0 n x1 x2 x3 σ) := by
  intro n
  induction n with
  | zero => intro x1 x2 x3 σ; exact z_none
  | succ n ih =>
    intro x1 x2 x3 σ
    rw [f_X11_turnOf_5]
    refine z_iload3 4 6 rfl rfl ?_
    refine z_iconst 5 7 rfl rfl ci_1 ?_
    refine z_aload0 6 8 rfl rfl ?_
    refine z_getR 7 11 19 rfl rfl zf_X11_32 rfl h0 ?_
    refine z_bipush 8 13 rfl rfl cb_48 ?_
    refine z_iald 9 14 rfl rfl ?_
    refine z_ishl 10 15 rfl rfl ?_
    refine z_icmp_ge 11 18 77 rfl rfl (by decide) ?_ ?_
    · refine z_iload2 44 78 rfl rfl ?_
      exact z_iret 45 rfl rfl
    · refine z_iload3 12 19 rfl rfl ?_
      refine z_aload0 13 20 rfl rfl ?_
      refine z_cV0I 14 23 rfl rfl zl_X11_352 F_X11_allRead (zR_rm (by omega)) (c_X11_allRead X d (by omega) a0 σ) ⟨by decide, rfl, rfl⟩ h0 rfl (Nat.le_of_ble_eq_true rfl) (fun r7 σ8 => ?_)
      refine z_iconst 15 24 rfl rfl ci_m1 ?_
      refine z_ixor 16 25 rfl rfl ?_
      refine z_iand 17 26 rfl rfl ?_
      refine z_if_ne 18 29 71 rfl rfl (by decide) ?_ ?_
      · refine z_iload2 19 30 rfl rfl ?_
        refine z_if_lt 20 33 44 rfl rfl (by decide) ?_ ?_
        · exact t_X11_turnOf_44 X d hd a0 h0 (f_X11_turnOf_5 a0 n) ih x1 x2 x3 σ8
        · refine z_iload3 21 34 rfl rfl ?_
          refine z_cS1I 22 37 rfl rfl zl_X11_342 F_X11_ones (zR_rm (by omega)) (c_X11_ones X d x3 σ8) rfl (Nat.le_of_ble_eq_true rfl) (fun r9 σ10 => ?_)
          refine z_iload2 23 38 rfl rfl ?_
          refine z_cS1I 24 41 rfl rfl zl_X11_342 F_X11_ones (zR_rm (by omega)) (c_X11_ones X d x2 σ10) rfl (Nat.le_of_ble_eq_true rfl) (fun r11 σ12 => ?_)
          refine z_icmp_ge 25 44 71 rfl rfl (by decide) ?_ ?_
          · exact t_X11_turnOf_71 X d hd a0 h0 (f_X11_turnOf_5 a0 n) ih x1 x2 x3 σ12
          · exact t_X11_turnOf_44 X d hd a0 h0 (f_X11_turnOf_5 a0 n) ih x1 x2 x3 σ12
      · exact t_X11_turnOf_71 X d hd a0 h0 (f_X11_turnOf_5 a0 n) ih x1 x2 x3 σ8
def f_X11_turnOf (a0 : Nat) (x1 : Int32) (σ : zS) : Option (Int32 × zS) := zck (WM.2 a0 = (11, 0)) (zlt (-2 : Int32) (fun v13 => zlt (1 : Int32) (fun v14 => f_X11_turnOf_5 a0 FU x1 v13 v14 σ)))
theorem c_X11_turnOf (X : zX) (d : Nat) (hd : 7 ≤ d) (a0 : Nat) (x1 : Int32) (σ : zS) : ∀ (r : Int32) (σ' : zS), f_X11_turnOf a0 x1 σ = some (r, σ') → zCN X WM d M_X11_turnOf [.ref a0, .int x1] σ (zeI r, σ') := by
  obtain ⟨d, rfl⟩ : ∃ e, d = e + 1 := ⟨d - 1, by omega⟩
  refine z_entry [.ref a0, .int x1] (by decide +kernel) T_X11_turnOf (Nat.le_of_ble_eq_true rfl) ?_
  show zK X WM (zrm (d + 1)) M_X11_turnOf (zZ X WM zeI) 0 [some (.ref a0), some (.int x1), none, none] [] σ (f_X11_turnOf a0 x1 σ)
  unfold f_X11_turnOf
  refine z_ck (fun h0 => ?_)
  refine z_bipush 0 2 rfl rfl cb_m2 ?_
  refine z_istore2 1 3 rfl rfl rfl (fun v13 => ?_)
  refine z_iconst 2 4 rfl rfl ci_1 ?_
  refine z_istore3 3 5 rfl rfl rfl (fun v14 => ?_)
  exact t_X11_turnOf_5 X d hd a0 h0  FU x1 v13 v14 σ
def f_X11_turn (a0 : Nat) (x1 : Int32) (σ : zS) : Option (Int32 × zS) := zck (WM.2 a0 = (11, 0)) (zbd (f_X11_good a0 σ) (fun r1 σ2 => zbd (f_X11_isMatter a0 x1 σ2) (fun r3 σ4 => zbr (r3 = 0) (zbd (f_X11_no a0 (1 : Int32) σ4) (fun r5 σ6 => some (r5, σ6))) (zbd (f_X11_turnOf a0 x1 σ4) (fun r7 σ8 => some (r7, σ8))))))
theorem c_X11_turn (X : zX) (d : Nat) (hd : 8 ≤ d) (a0 : Nat) (x1 : Int32) (σ : zS) : ∀ (r : Int32) (σ' : zS), f_X11_turn a0 x1 σ = some (r, σ') → zCN X WM d M_X11_turn [.ref a0, .int x1] σ (zeI r, σ') := by
  obtain ⟨d, rfl⟩ : ∃ e, d = e + 1 := ⟨d - 1, by omega⟩
  refine z_entry [.ref a0, .int x1] (by decide +kernel) T_X11_turn (Nat.le_of_ble_eq_true rfl) ?_
  show zK X WM (zrm (d + 1)) M_X11_turn (zZ X WM zeI) 0 [some (.ref a0), some (.int x1)] [] σ (f_X11_turn a0 x1 σ)
  unfold f_X11_turn
  refine z_ck (fun h0 => ?_)
  refine z_aload0 0 1 rfl rfl ?_
  refine z_cV0V 1 4 rfl rfl zl_X11_178 F_X11_good (zR_rm (by omega)) (c_X11_good X d a0 σ) ⟨by decide, rfl, rfl⟩ h0 rfl (Nat.le_of_ble_eq_true rfl) (fun r1 σ2 => ?_)
  refine z_aload0 2 5 rfl rfl ?_
  refine z_iload1 3 6 rfl rfl ?_
  refine z_cV1I 4 9 rfl rfl zl_X11_336 F_X11_isMatter (zR_rm (by omega)) (c_X11_isMatter X d (by omega) a0 x1 σ2) ⟨by decide, rfl, rfl⟩ h0 rfl (Nat.le_of_ble_eq_true rfl) (fun r3 σ4 => ?_)
  refine z_if_eq 5 12 20 rfl rfl (by decide) ?_ ?_
  · refine z_aload0 10 21 rfl rfl ?_
    refine z_iconst 11 22 rfl rfl ci_1 ?_
    refine z_cV1I 12 25 rfl rfl zl_X11_181 F_X11_no (zR_rm (by omega)) (c_X11_no X d a0 (1 : Int32) σ4) ⟨by decide, rfl, rfl⟩ h0 rfl (Nat.le_of_ble_eq_true rfl) (fun r5 σ6 => ?_)
    exact z_iret 13 rfl rfl
  · refine z_aload0 6 13 rfl rfl ?_
    refine z_iload1 7 14 rfl rfl ?_
    refine z_cV1I 8 17 rfl rfl zl_X11_355 F_X11_turnOf (zR_rm (by omega)) (c_X11_turnOf X d (by omega) a0 x1 σ4) ⟨by decide, rfl, rfl⟩ h0 rfl (Nat.le_of_ble_eq_true rfl) (fun r7 σ8 => ?_)
    refine z_goto 9 25 rfl (by decide) ?_
    exact z_iret 13 rfl rfl
def f_X11_weakest_65 (a0 : Nat) (H22 : Int32 → Int32 → zS → Option (Int32 × zS)) (x1 : Int32) (x2 : Int32) (σ : zS) : Option (Int32 × zS) := zlt (x2 + (1 : Int32)) (fun v1 => H22 x1 v1 σ)
theorem t_X11_weakest_65 (X : zX) (d : Nat) (hd : 8 ≤ d + 1) (a0 : Nat) (h0 : WM.2 a0 = (11, 0)) (H22 : Int32 → Int32 → zS → Option (Int32 × zS)) (hH22 : ∀ (x1 : Int32) (x2 : Int32) (σ : zS), zK X WM (zrm (d + 1)) M_X11_weakest (zZ X WM zeI) 22 [some (.ref a0), some (.int x1), some (.int x2)] [] σ (H22 x1 x2 σ)) (x1 : Int32) (x2 : Int32) (σ : zS) : zK X WM (zrm (d + 1)) M_X11_weakest (zZ X WM zeI) 65 [some (.ref a0), some (.int x1), some (.int x2)] [] σ (f_X11_weakest_65 a0 H22 x1 x2 σ) := by
  unfold f_X11_weakest_65
  refine z_iinc2 36 68 rfl rfl ci_1 rfl (fun v1 => ?_)
  refine z_goto 37 22 rfl (by decide) ?_
  exact hH22 x1 v1 σ
def f_X11_weakest_63 (a0 : Nat) (H22 : Int32 → Int32 → zS → Option (Int32 × zS)) (x2 : Int32) (σ : zS) : Option (Int32 × zS) := zlt x2 (fun v2 => f_X11_weakest_65 a0 H22 v2 x2 σ)
theorem t_X11_weakest_63 (X : zX) (d : Nat) (hd : 8 ≤ d + 1) (a0 : Nat) (h0 : WM.2 a0 = (11, 0)) (H22 : Int32 → Int32 → zS → Option (Int32 × zS)) (hH22 : ∀ (x1 : Int32) (x2 : Int32) (σ : zS), zK X WM (zrm (d + 1)) M_X11_weakest (zZ X WM zeI) 22 [some (.ref a0), some (.int x1), some (.int x2)] [] σ (H22 x1 x2 σ)) (x2 : Int32) (σ : zS) : zK X WM (zrm (d + 1)) M_X11_weakest (zZ X WM zeI) 63 [some (.ref a0), none, some (.int x2)] [] σ (f_X11_weakest_63 a0 H22 x2 σ) := by
  unfold f_X11_weakest_63
  refine z_iload2 34 64 rfl rfl ?_
  refine z_istore1 35 65 rfl rfl rfl (fun v2 => ?_)
  exact t_X11_weakest_65 X d hd a0 h0 H22 hH22 v2 x2 σ
def f_X11_weakest_22 (a0 : Nat) : Nat → Int32 → Int32 → zS → Option (Int32 × zS)
  | 0, _, _, _ => none
  | n + 1, x1, x2, σ => zck (zok 100 (WM.2 (σ.2 a0 15)) (4 : Int32)) (zbr ((σ.1 (σ.2 a0 15) (4 : Int32).toNatClampNeg) ≤ x2) (some (x1, σ)) (zbd (f_X11_turnOf a0 x2 σ) (fun r3 σ4 => zbr (r3 < 0) (f_X11_weakest_65 a0 (f_X11_weakest_22 a0 n) x1 x2 σ4) (zbr (x1 < 0) (f_X11_weakest_63 a0 (f_X11_weakest_22 a0 n) x2 σ4) (zbd (f_X11_turnOf a0 x2 σ4) (fun r5 σ6 => zbd (f_X11_ones r5 σ6) (fun r7 σ8 => zbd (f_X11_turnOf a0 x1 σ8) (fun r9 σ10 => zbd (f_X11_ones r9 σ10) (fun r11 σ12 => zbr (r11 ≤ r7) (f_X11_weakest_65 a0 (f_X11_weakest_22 a0 n) x1 x2 σ12) (f_X11_weakest_63 a0 (f_X11_weakest_22 a0 n) x2 σ12))))))))))
theorem t_X11_weakest_22 (X : zX) (d : Nat) (hd : 8 ≤ d + 1) (a0 : Nat) (h0 : WM.2 a0 = (11, 0)) : ∀ (n : Nat) (x1 : Int32) (x2 : Int32) (σ : zS), zK X WM (zrm (d + 1)) M_X11_weakest (zZ X WM zeI) 22 [some (.ref a0), some (.int x1), some (.int x2)] [] σ (f_X11_weakest_22 a0 n x1 x2 σ) := by
  intro n
  induction n with
  | zero => intro x1 x2 σ; exact z_none
  | succ n ih =>
    intro x1 x2 σ
    rw [f_X11_weakest_22]
    refine z_iload2 13 23 rfl rfl ?_
    refine z_aload0 14 24 rfl rfl ?_
    refine z_getR 15 27 15 rfl rfl zf_X11_20 rfl h0 ?_
    refine z_iconst 16 28 rfl rfl ci_4 ?_
    refine z_iald 17 29 rfl rfl ?_
    refine z_icmp_ge 18 32 71 rfl rfl (by decide) ?_ ?_
    · refine z_iload1 38 72 rfl rfl ?_
      exact z_iret 39 rfl rfl
    · refine z_aload0 19 33 rfl rfl ?_
      refine z_iload2 20 34 rfl rfl ?_
      refine z_cV1I 21 37 rfl rfl zl_X11_355 F_X11_turnOf (zR_rm (by omega)) (c_X11_turnOf X d (by omega) a0 x2 σ) ⟨by decide, rfl, rfl⟩ h0 rfl (Nat.le_of_ble_eq_true rfl) (fun r3 σ4 => ?_)
      refine z_if_lt 22 40 65 rfl rfl (by decide) ?_ ?_
      · exact t_X11_weakest_65 X d hd a0 h0 (f_X11_weakest_22 a0 n) ih x1 x2 σ4
      · refine z_iload1 23 41 rfl rfl ?_
        refine z_if_lt 24 44 63 rfl rfl (by decide) ?_ ?_
        · exact z_wk (zle_e (zle_n (zle_e zle_0))) (t_X11_weakest_63 X d hd a0 h0 (f_X11_weakest_22 a0 n) ih x2 σ4)
        · refine z_aload0 25 45 rfl rfl ?_
          refine z_iload2 26 46 rfl rfl ?_
          refine z_cV1I 27 49 rfl rfl zl_X11_355 F_X11_turnOf (zR_rm (by omega)) (c_X11_turnOf X d (by omega) a0 x2 σ4) ⟨by decide, rfl, rfl⟩ h0 rfl (Nat.le_of_ble_eq_true rfl) (fun r5 σ6 => ?_)
          refine z_cS1I 28 52 rfl rfl zl_X11_342 F_X11_ones (zR_rm (by omega)) (c_X11_ones X d r5 σ6) rfl (Nat.le_of_ble_eq_true rfl) (fun r7 σ8 => ?_)
          refine z_aload0 29 53 rfl rfl ?_
          refine z_iload1 30 54 rfl rfl ?_
          refine z_cV1I 31 57 rfl rfl zl_X11_355 F_X11_turnOf (zR_rm (by omega)) (c_X11_turnOf X d (by omega) a0 x1 σ8) ⟨by decide, rfl, rfl⟩ h0 rfl (Nat.le_of_ble_eq_true rfl) (fun r9 σ10 => ?_)
          refine z_cS1I 32 60 rfl rfl zl_X11_342 F_X11_ones (zR_rm (by omega)) (c_X11_ones X d r9 σ10) rfl (Nat.le_of_ble_eq_true rfl) (fun r11 σ12 => ?_)
          refine z_icmp_ge 33 63 65 rfl rfl (by decide) ?_ ?_
          · exact t_X11_weakest_65 X d hd a0 h0 (f_X11_weakest_22 a0 n) ih x1 x2 σ12
          · exact z_wk (zle_e (zle_n (zle_e zle_0))) (t_X11_weakest_63 X d hd a0 h0 (f_X11_weakest_22 a0 n) ih x2 σ12)
def f_X11_weakest (a0 : Nat) (σ : zS) : Option (Int32 × zS) := zck (WM.2 a0 = (11, 0)) (zbd (f_X11_good a0 σ) (fun r13 σ14 => zbr ((σ14.1 a0 14) = 0) (zbd (f_X11_no a0 (1 : Int32) σ14) (fun r15 σ16 => some (r15, σ16))) (zlt (-2 : Int32) (fun v17 => zlt (0 : Int32) (fun v18 => f_X11_weakest_22 a0 FU v17 v18 σ14)))))
theorem c_X11_weakest (X : zX) (d : Nat) (hd : 8 ≤ d) (a0 : Nat) (σ : zS) : ∀ (r : Int32) (σ' : zS), f_X11_weakest a0 σ = some (r, σ') → zCN X WM d M_X11_weakest [.ref a0] σ (zeI r, σ') := by
  obtain ⟨d, rfl⟩ : ∃ e, d = e + 1 := ⟨d - 1, by omega⟩
  refine z_entry [.ref a0] (by decide +kernel) T_X11_weakest (Nat.le_of_ble_eq_true rfl) ?_
  show zK X WM (zrm (d + 1)) M_X11_weakest (zZ X WM zeI) 0 [some (.ref a0), none, none] [] σ (f_X11_weakest a0 σ)
  unfold f_X11_weakest
  refine z_ck (fun h0 => ?_)
  refine z_aload0 0 1 rfl rfl ?_
  refine z_cV0V 1 4 rfl rfl zl_X11_178 F_X11_good (zR_rm (by omega)) (c_X11_good X d a0 σ) ⟨by decide, rfl, rfl⟩ h0 rfl (Nat.le_of_ble_eq_true rfl) (fun r13 σ14 => ?_)
  refine z_aload0 2 5 rfl rfl ?_
  refine z_getI 3 8 14 rfl rfl zf_X11_191 rfl h0 ?_
  refine z_if_ne 4 11 17 rfl rfl (by decide) ?_ ?_
  · refine z_aload0 5 12 rfl rfl ?_
    refine z_iconst 6 13 rfl rfl ci_1 ?_
    refine z_cV1I 7 16 rfl rfl zl_X11_181 F_X11_no (zR_rm (by omega)) (c_X11_no X d a0 (1 : Int32) σ14) ⟨by decide, rfl, rfl⟩ h0 rfl (Nat.le_of_ble_eq_true rfl) (fun r15 σ16 => ?_)
    exact z_iret 8 rfl rfl
  · refine z_bipush 9 19 rfl rfl cb_m2 ?_
    refine z_istore1 10 20 rfl rfl rfl (fun v17 => ?_)
    refine z_iconst 11 21 rfl rfl ci_0 ?_
    refine z_istore2 12 22 rfl rfl rfl (fun v18 => ?_)
    exact t_X11_weakest_22 X d hd a0 h0  FU v17 v18 σ14
def f_X11_roomNow_40 (a0 : Nat) (H16 : Int32 → Int32 → Int32 → zS → Option (Int32 × zS)) (x1 : Int32) (x3 : Int32) (s0 : Int32) (s1 : Int32) (σ : zS) : Option (Int32 × zS) := zlt (s0 - s1) (fun v1 => zlt (x3 + (1 : Int32)) (fun v2 => H16 x1 v1 v2 σ))
theorem t_X11_roomNow_40 (X : zX) (d : Nat) (hd : 1 ≤ d + 1) (a0 : Nat) (h0 : WM.2 a0 = (11, 0)) (H16 : Int32 → Int32 → Int32 → zS → Option (Int32 × zS)) (hH16 : ∀ (x1 : Int32) (x2 : Int32) (x3 : Int32) (σ : zS), zK X WM (zrm (d + 1)) M_X11_roomNow (zZ X WM zeI) 16 [some (.ref a0), some (.int x1), some (.int x2), some (.int x3)] [] σ (H16 x1 x2 x3 σ)) (x1 : Int32) (x3 : Int32) (s0 : Int32) (s1 : Int32) (σ : zS) : zK X WM (zrm (d + 1)) M_X11_roomNow (zZ X WM zeI) 40 [some (.ref a0), some (.int x1), none, some (.int x3)] [.int s1, .int s0] σ (f_X11_roomNow_40 a0 H16 x1 x3 s0 s1 σ) := by
  unfold f_X11_roomNow_40
  refine z_isub 24 41 rfl rfl ?_
  refine z_istore2 25 42 rfl rfl rfl (fun v1 => ?_)
  refine z_iinc3 26 45 rfl rfl ci_1 rfl (fun v2 => ?_)
  refine z_goto 27 16 rfl (by decide) ?_
  exact hH16 x1 v1 v2 σ
def f_X11_roomNow_16 (a0 : Nat) : Nat → Int32 → Int32 → Int32 → zS → Option (Int32 × zS)
  | 0, _, _, _, _ => none
  | n + 1, x1, x2, x3, σ => zbr ((σ.1 a0 31) ≤ x3) (some (x2, σ)) (zck (zok 100 (WM.2 (σ.2 a0 29)) x3) (zbr ((σ.1 (σ.2 a0 29) x3.toNatClampNeg) = x1) (f_X11_roomNow_40 a0 (f_X11_roomNow_16 a0 n) x1 x3 x2 (1 : Int32) σ) (f_X11_roomNow_40 a0 (f_X11_roomNow_16 a0 n) x1 x3 x2 (0 : Int32) σ)))
theorem t_X11_roomNow_16 (X : zX) (d : Nat) (hd : 1 ≤ d + 1) (a0 : Nat) (h0 : WM.2 a0 = (11, 0)) : ∀ (n : Nat) (x1 : Int32) (x2 : Int32) (x3 : Int32) (σ : zS), zK X WM (zrm (d + 1)) M_X11_roomNow (zZ X WM zeI) 16 [some (.ref a0), some (.int x1), some (.int x2), some (.int x3)] [] σ (f_X11_roomNow_16 a0 n x1 x2 x3 σ) := by
  intro n
  induction n with
  | zero => intro x1 x2 x3 σ; exact z_none
  | succ n ih =>
    intro x1 x2 x3 σ
    rw [f_X11_roomNow_16]
    refine z_iload3 10 17 rfl rfl ?_
    refine z_aload0 11 18 rfl rfl ?_
    refine z_getI 12 21 31 rfl rfl zf_X11_358 rfl h0 ?_
    refine z_icmp_ge 13 24 48 rfl rfl (by decide) ?_ ?_
    · refine z_iload2 28 49 rfl rfl ?_
      exact z_iret 29 rfl rfl
    · refine z_iload2 14 25 rfl rfl ?_
      refine z_aload0 15 26 rfl rfl ?_
      refine z_getR 16 29 29 rfl rfl zf_X11_50 rfl h0 ?_
      refine z_iload3 17 30 rfl rfl ?_
      refine z_iald 18 31 rfl rfl ?_
      refine z_iload1 19 32 rfl rfl ?_
      refine z_icmp_ne 20 35 39 rfl rfl (by decide) ?_ ?_
      · refine z_iconst 21 36 rfl rfl ci_1 ?_
        refine z_goto 22 40 rfl (by decide) ?_
        exact z_wk (zle_e (zle_e (zle_n (zle_e zle_0)))) (t_X11_roomNow_40 X d hd a0 h0 (f_X11_roomNow_16 a0 n) ih x1 x3 x2 (1 : Int32) σ)
      · refine z_iconst 23 40 rfl rfl ci_0 ?_
        exact z_wk (zle_e (zle_e (zle_n (zle_e zle_0)))) (t_X11_roomNow_40 X d hd a0 h0 (f_X11_roomNow_16 a0 n) ih x1 x3 x2 (0 : Int32) σ)
def f_X11_roomNow (a0 : Nat) (x1 : Int32) (σ : zS) : Option (Int32 × zS) := zck (WM.2 a0 = (11, 0)) (zbd (f_X11_roomOn a0 (σ.2 a0 15) (σ.2 a0 19) x1 σ) (fun r3 σ4 => zlt r3 (fun v5 => zlt (0 : Int32) (fun v6 => f_X11_roomNow_16 a0 FU x1 v5 v6 σ4))))
theorem c_X11_roomNow (X : zX) (d : Nat) (hd : 1 ≤ d) (a0 : Nat) (x1 : Int32) (σ : zS) : ∀ (r : Int32) (σ' : zS), f_X11_roomNow a0 x1 σ = some (r, σ') → zCN X WM d M_X11_roomNow [.ref a0, .int x1] σ (zeI r, σ') := by
  obtain ⟨d, rfl⟩ : ∃ e, d = e + 1 := ⟨d - 1, by omega⟩
  refine z_entry [.ref a0, .int x1] (by decide +kernel) T_X11_roomNow (Nat.le_of_ble_eq_true rfl) ?_
  show zK X WM (zrm (d + 1)) M_X11_roomNow (zZ X WM zeI) 0 [some (.ref a0), some (.int x1), none, none] [] σ (f_X11_roomNow a0 x1 σ)
  unfold f_X11_roomNow
  refine z_ck (fun h0 => ?_)
  refine z_aload0 0 1 rfl rfl ?_
  refine z_aload0 1 2 rfl rfl ?_
  refine z_getR 2 5 15 rfl rfl zf_X11_20 rfl h0 ?_
  refine z_aload0 3 6 rfl rfl ?_
  refine z_getR 4 9 19 rfl rfl zf_X11_32 rfl h0 ?_
  refine z_iload1 5 10 rfl rfl ?_
  refine z_cV3I 6 13 rfl rfl zl_X11_262 F_X11_roomOn (zR_rm (by omega)) (c_X11_roomOn X d a0 (σ.2 a0 15) (σ.2 a0 19) x1 σ) ⟨by decide, rfl, rfl⟩ h0 rfl (Nat.le_of_ble_eq_true rfl) (fun r3 σ4 => ?_)
  refine z_istore2 7 14 rfl rfl rfl (fun v5 => ?_)
  refine z_iconst 8 15 rfl rfl ci_0 ?_
  refine z_istore3 9 16 rfl rfl rfl (fun v6 => ?_)
  exact t_X11_roomNow_16 X d hd a0 h0  FU x1 v5 v6 σ4
def f_X11_canWrite (a0 : Nat) (x1 : Int32) (σ : zS) : Option (Int32 × zS) := zck (WM.2 a0 = (11, 0)) (zck (zok 100 (WM.2 (σ.2 a0 19)) (49 : Int32)) (zbd (f_X11_hasBit (σ.1 (σ.2 a0 19) (49 : Int32).toNatClampNeg) x1 σ) (fun r1 σ2 => zbr (r1 = 0) (zbd (f_X11_roomNow a0 x1 σ2) (fun r3 σ4 => zbr (r3 ≤ 0) (zck (zb (0 : Int32)) (some ((0 : Int32), σ4))) (zck (zb (1 : Int32)) (some ((1 : Int32), σ4))))) (zck (zb (0 : Int32)) (some ((0 : Int32), σ2))))))
theorem c_X11_canWrite (X : zX) (d : Nat) (hd : 2 ≤ d) (a0 : Nat) (x1 : Int32) (σ : zS) : ∀ (r : Int32) (σ' : zS), f_X11_canWrite a0 x1 σ = some (r, σ') → zCN X WM d M_X11_canWrite [.ref a0, .int x1] σ (zeI r, σ') := by
  obtain ⟨d, rfl⟩ : ∃ e, d = e + 1 := ⟨d - 1, by omega⟩
  refine z_entry [.ref a0, .int x1] (by decide +kernel) T_X11_canWrite (Nat.le_of_ble_eq_true rfl) ?_
  show zK X WM (zrm (d + 1)) M_X11_canWrite (zZ X WM zeI) 0 [some (.ref a0), some (.int x1)] [] σ (f_X11_canWrite a0 x1 σ)
  unfold f_X11_canWrite
  refine z_ck (fun h0 => ?_)
  refine z_aload0 0 1 rfl rfl ?_
  refine z_getR 1 4 19 rfl rfl zf_X11_32 rfl h0 ?_
  refine z_bipush 2 6 rfl rfl cb_49 ?_
  refine z_iald 3 7 rfl rfl ?_
  refine z_iload1 4 8 rfl rfl ?_
  refine z_cS2I 5 11 rfl rfl zl_X11_277 F_X11_hasBit (zR_rm (by omega)) (c_X11_hasBit X d (σ.1 (σ.2 a0 19) (49 : Int32).toNatClampNeg) x1 σ) rfl (Nat.le_of_ble_eq_true rfl) (fun r1 σ2 => ?_)
  refine z_if_ne 6 14 26 rfl rfl (by decide) ?_ ?_
  · refine z_aload0 7 15 rfl rfl ?_
    refine z_iload1 8 16 rfl rfl ?_
    refine z_cV1I 9 19 rfl rfl zl_X11_361 F_X11_roomNow (zR_rm (by omega)) (c_X11_roomNow X d (by omega) a0 x1 σ2) ⟨by decide, rfl, rfl⟩ h0 rfl (Nat.le_of_ble_eq_true rfl) (fun r3 σ4 => ?_)
    refine z_if_le 10 22 26 rfl rfl (by decide) ?_ ?_
    · refine z_iconst 13 27 rfl rfl ci_0 ?_
      exact z_zret 14 rfl rfl
    · refine z_iconst 11 23 rfl rfl ci_1 ?_
      refine z_goto 12 27 rfl (by decide) ?_
      exact z_zret 14 rfl rfl
  · refine z_iconst 13 27 rfl rfl ci_0 ?_
    exact z_zret 14 rfl rfl
def f_X11_more (a0 : Nat) (x1 : Int32) (x2 : Int32) (σ : zS) : Option (Unit × zS) := zck (WM.2 a0 = (11, 0)) (zck (zok 100 (WM.2 (σ.2 a0 29)) (σ.1 a0 31)) (zlt (zpi σ (σ.2 a0 29) (σ.1 a0 31).toNatClampNeg x1) (fun σ1 => zck (zok 100 (WM.2 (σ1.2 a0 30)) (σ1.1 a0 31)) (zlt (zpi σ1 (σ1.2 a0 30) (σ1.1 a0 31).toNatClampNeg x2) (fun σ2 => zlt (zpi σ2 a0 31 ((σ2.1 a0 31) + (1 : Int32))) (fun σ3 => some ((), σ3)))))))
theorem c_X11_more (X : zX) (d : Nat) (a0 : Nat) (x1 : Int32) (x2 : Int32) (σ : zS) : ∀ (r : Unit) (σ' : zS), f_X11_more a0 x1 x2 σ = some (r, σ') → zCN X WM d M_X11_more [.ref a0, .int x1, .int x2] σ (zeV r, σ') := by
  refine z_entry [.ref a0, .int x1, .int x2] (by decide +kernel) T_X11_more (Nat.le_of_ble_eq_true rfl) ?_
  show zK X WM (zrm d) M_X11_more (zZ X WM zeV) 0 [some (.ref a0), some (.int x1), some (.int x2)] [] σ (f_X11_more a0 x1 x2 σ)
  unfold f_X11_more
  refine z_ck (fun h0 => ?_)
  refine z_aload0 0 1 rfl rfl ?_
  refine z_getR 1 4 29 rfl rfl zf_X11_50 rfl h0 ?_
  refine z_aload0 2 5 rfl rfl ?_
  refine z_getI 3 8 31 rfl rfl zf_X11_358 rfl h0 ?_
  refine z_iload1 4 9 rfl rfl ?_
  refine z_iast 5 10 rfl rfl (fun σ1 => ?_)
  refine z_aload0 6 11 rfl rfl ?_
  refine z_getR 7 14 30 rfl rfl zf_X11_53 rfl h0 ?_
  refine z_aload0 8 15 rfl rfl ?_
  refine z_getI 9 18 31 rfl rfl zf_X11_358 rfl h0 ?_
  refine z_iload2 10 19 rfl rfl ?_
  refine z_iast 11 20 rfl rfl (fun σ2 => ?_)
  refine z_aload0 12 21 rfl rfl ?_
  refine z_dup 13 22 rfl rfl rfl ?_
  refine z_getI 14 25 31 rfl rfl zf_X11_358 rfl h0 ?_
  refine z_iconst 15 26 rfl rfl ci_1 ?_
  refine z_iadd 16 27 rfl rfl ?_
  refine z_putI 17 30 31 rfl rfl zf_X11_358 rfl rfl rfl h0 (fun σ3 => ?_)
  exact z_vret 18 rfl rfl
def f_X11_layMore_19 (a0 : Nat) : Nat → Int32 → zS → Option (Unit × zS)
  | 0, _, _ => none
  | n + 1, x2, σ => zbr ((σ.1 a0 31) ≤ x2) (some ((), σ)) (zck (zok 100 (WM.2 (σ.2 a0 29)) x2) (zck (zok 100 (WM.2 (σ.2 a0 30)) x2) (zbd (f_X11_add a0 (σ.1 (σ.2 a0 29) x2.toNatClampNeg) (σ.1 (σ.2 a0 30) x2.toNatClampNeg) ((8 : Int32) + x2) σ) (fun r1 σ2 => zlt (x2 + (1 : Int32)) (fun v3 => f_X11_layMore_19 a0 n v3 σ2)))))
theorem t_X11_layMore_19 (X : zX) (d : Nat) (hd : 3 ≤ d + 1) (a0 : Nat) (h0 : WM.2 a0 = (11, 0)) : ∀ (n : Nat) (x2 : Int32) (σ : zS), zK X WM (zrm (d + 1)) M_X11_layMore (zZ X WM zeV) 19 [some (.ref a0), none, some (.int x2)] [] σ (f_X11_layMore_19 a0 n x2 σ) := by
  intro n
  induction n with
  | zero => intro x2 σ; exact z_none
  | succ n ih =>
    intro x2 σ
    rw [f_X11_layMore_19]
    refine z_iload2 12 20 rfl rfl ?_
    refine z_aload0 13 21 rfl rfl ?_
    refine z_getI 14 24 31 rfl rfl zf_X11_358 rfl h0 ?_
    refine z_icmp_ge 15 27 53 rfl rfl (by decide) ?_ ?_
    · exact z_vret 31 rfl rfl
    · refine z_aload0 16 28 rfl rfl ?_
      refine z_aload0 17 29 rfl rfl ?_
      refine z_getR 18 32 29 rfl rfl zf_X11_50 rfl h0 ?_
      refine z_iload2 19 33 rfl rfl ?_
      refine z_iald 20 34 rfl rfl ?_
      refine z_aload0 21 35 rfl rfl ?_
      refine z_getR 22 38 30 rfl rfl zf_X11_53 rfl h0 ?_
      refine z_iload2 23 39 rfl rfl ?_
      refine z_iald 24 40 rfl rfl ?_
      refine z_bipush 25 42 rfl rfl cb_8 ?_
      refine z_iload2 26 43 rfl rfl ?_
      refine z_iadd 27 44 rfl rfl ?_
      refine z_cV3V 28 47 rfl rfl zl_X11_288 F_X11_add (zR_rm (by omega)) (c_X11_add X d a0 (σ.1 (σ.2 a0 29) x2.toNatClampNeg) (σ.1 (σ.2 a0 30) x2.toNatClampNeg) ((8 : Int32) + x2) σ) ⟨by decide, rfl, rfl⟩ h0 rfl (Nat.le_of_ble_eq_true rfl) (fun r1 σ2 => ?_)
      refine z_iinc2 29 50 rfl rfl ci_1 rfl (fun v3 => ?_)
      refine z_goto 30 19 rfl (by decide) ?_
      exact ih v3 σ2
def f_X11_layMore (a0 : Nat) (x1 : Int32) (σ : zS) : Option (Unit × zS) := zck (WM.2 a0 = (11, 0)) (zck (zok 100 (WM.2 (σ.2 a0 19)) (48 : Int32)) (zbd (f_X11_layList a0 (σ.2 a0 19) x1 (σ.1 (σ.2 a0 19) (48 : Int32).toNatClampNeg) (0 : Int32) σ) (fun r4 σ5 => zlt (0 : Int32) (fun v6 => f_X11_layMore_19 a0 FU v6 σ5))))
theorem c_X11_layMore (X : zX) (d : Nat) (hd : 3 ≤ d) (a0 : Nat) (x1 : Int32) (σ : zS) : ∀ (r : Unit) (σ' : zS), f_X11_layMore a0 x1 σ = some (r, σ') → zCN X WM d M_X11_layMore [.ref a0, .int x1] σ (zeV r, σ') := by
  obtain ⟨d, rfl⟩ : ∃ e, d = e + 1 := ⟨d - 1, by omega⟩
  refine z_entry [.ref a0, .int x1] (by decide +kernel) T_X11_layMore (Nat.le_of_ble_eq_true rfl) ?_
  show zK X WM (zrm (d + 1)) M_X11_layMore (zZ X WM zeV) 0 [some (.ref a0), some (.int x1), none] [] σ (f_X11_layMore a0 x1 σ)
  unfold f_X11_layMore
  refine z_ck (fun h0 => ?_)
  refine z_aload0 0 1 rfl rfl ?_
  refine z_aload0 1 2 rfl rfl ?_
  refine z_getR 2 5 19 rfl rfl zf_X11_32 rfl h0 ?_
  refine z_iload1 3 6 rfl rfl ?_
  refine z_aload0 4 7 rfl rfl ?_
  refine z_getR 5 10 19 rfl rfl zf_X11_32 rfl h0 ?_
  refine z_bipush 6 12 rfl rfl cb_48 ?_
  refine z_iald 7 13 rfl rfl ?_
  refine z_iconst 8 14 rfl rfl ci_0 ?_
  refine z_cV4V 9 17 rfl rfl zl_X11_301 F_X11_layList (zR_rm (by omega)) (c_X11_layList X d (by omega) a0 (σ.2 a0 19) x1 (σ.1 (σ.2 a0 19) (48 : Int32).toNatClampNeg) (0 : Int32) σ) ⟨by decide, rfl, rfl⟩ h0 rfl (Nat.le_of_ble_eq_true rfl) (fun r4 σ5 => ?_)
  refine z_iconst 10 18 rfl rfl ci_0 ?_
  refine z_istore2 11 19 rfl rfl rfl (fun v6 => ?_)
  exact z_wk (zle_e (zle_n (zle_e zle_0))) (t_X11_layMore_19 X d hd a0 h0  FU v6 σ5)
def f_X11_doesHold_77 (a0 : Nat) (H43 : Int32 → Int32 → zS → Option (Int32 × zS)) (x2 : Int32) (x3 : Int32) (σ : zS) : Option (Int32 × zS) := zlt (x3 + (1 : Int32)) (fun v1 => H43 x2 v1 σ)
theorem t_X11_doesHold_77 (X : zX) (d : Nat) (hd : 4 ≤ d + 1) (a0 : Nat) (h0 : WM.2 a0 = (11, 0)) (H43 : Int32 → Int32 → zS → Option (Int32 × zS)) (hH43 : ∀ (x2 : Int32) (x3 : Int32) (σ : zS), zK X WM (zrm (d + 1)) M_X11_doesHold (zZ X WM zeI) 43 [some (.ref a0), none, some (.int x2), some (.int x3)] [] σ (H43 x2 x3 σ)) (x2 : Int32) (x3 : Int32) (σ : zS) : zK X WM (zrm (d + 1)) M_X11_doesHold (zZ X WM zeI) 77 [some (.ref a0), none, some (.int x2), some (.int x3)] [] σ (f_X11_doesHold_77 a0 H43 x2 x3 σ) := by
  unfold f_X11_doesHold_77
  refine z_iinc3 47 80 rfl rfl ci_1 rfl (fun v1 => ?_)
  refine z_goto 48 43 rfl (by decide) ?_
  exact hH43 x2 v1 σ
def f_X11_doesHold_43 (a0 : Nat) : Nat → Int32 → Int32 → zS → Option (Int32 × zS)
  | 0, _, _, _ => none
  | n + 1, x2, x3, σ => zck (zok 100 (WM.2 (σ.2 a0 15)) (1 : Int32)) (zbr ((σ.1 (σ.2 a0 15) (1 : Int32).toNatClampNeg) ≤ x3) (zck (zb (1 : Int32)) (some ((1 : Int32), σ))) (zbd (f_X11_canWrite a0 x3 σ) (fun r2 σ3 => zbr (r2 = 0) (f_X11_doesHold_77 a0 (f_X11_doesHold_43 a0 n) x2 x3 σ3) (zbr (x3 = x2) (zck (zb (0 : Int32)) (some ((0 : Int32), σ3))) (zbd (f_X11_doesOutrank a0 x3 x2 σ3) (fun r4 σ5 => zbr (r4 = 0) (f_X11_doesHold_77 a0 (f_X11_doesHold_43 a0 n) x2 x3 σ5) (zck (zb (0 : Int32)) (some ((0 : Int32), σ5)))))))))
theorem t_X11_doesHold_43 (X : zX) (d : Nat) (hd : 4 ≤ d + 1) (a0 : Nat) (h0 : WM.2 a0 = (11, 0)) : ∀ (n : Nat) (x2 : Int32) (x3 : Int32) (σ : zS), zK X WM (zrm (d + 1)) M_X11_doesHold (zZ X WM zeI) 43 [some (.ref a0), none, some (.int x2), some (.int x3)] [] σ (f_X11_doesHold_43 a0 n x2 x3 σ) := by
  intro n
  induction n with
  | zero => intro x2 x3 σ; exact z_none
  | succ n ih =>
    intro x2 x3 σ
    rw [f_X11_doesHold_43]
    refine z_iload3 27 44 rfl rfl ?_
    refine z_aload0 28 45 rfl rfl ?_
    refine z_getR 29 48 15 rfl rfl zf_X11_20 rfl h0 ?_
    refine z_iconst 30 49 rfl rfl ci_1 ?_
    refine z_iald 31 50 rfl rfl ?_
    refine z_icmp_ge 32 53 83 rfl rfl (by decide) ?_ ?_
    · refine z_iconst 49 84 rfl rfl ci_1 ?_
      exact z_zret 50 rfl rfl
    · refine z_aload0 33 54 rfl rfl ?_
      refine z_iload3 34 55 rfl rfl ?_
      refine z_cV1I 35 58 rfl rfl zl_X11_364 F_X11_canWrite (zR_rm (by omega)) (c_X11_canWrite X d (by omega) a0 x3 σ) ⟨by decide, rfl, rfl⟩ h0 rfl (Nat.le_of_ble_eq_true rfl) (fun r2 σ3 => ?_)
      refine z_if_eq 36 61 77 rfl rfl (by decide) ?_ ?_
      · exact t_X11_doesHold_77 X d hd a0 h0 (f_X11_doesHold_43 a0 n) ih x2 x3 σ3
      · refine z_iload3 37 62 rfl rfl ?_
        refine z_iload2 38 63 rfl rfl ?_
        refine z_icmp_eq 39 66 75 rfl rfl (by decide) ?_ ?_
        · refine z_iconst 45 76 rfl rfl ci_0 ?_
          exact z_zret 46 rfl rfl
        · refine z_aload0 40 67 rfl rfl ?_
          refine z_iload3 41 68 rfl rfl ?_
          refine z_iload2 42 69 rfl rfl ?_
          refine z_cV2I 43 72 rfl rfl zl_X11_292 F_X11_doesOutrank (zR_rm (by omega)) (c_X11_doesOutrank X d (by omega) a0 x3 x2 σ3) ⟨by decide, rfl, rfl⟩ h0 rfl (Nat.le_of_ble_eq_true rfl) (fun r4 σ5 => ?_)
          refine z_if_eq 44 75 77 rfl rfl (by decide) ?_ ?_
          · exact t_X11_doesHold_77 X d hd a0 h0 (f_X11_doesHold_43 a0 n) ih x2 x3 σ5
          · refine z_iconst 45 76 rfl rfl ci_0 ?_
            exact z_zret 46 rfl rfl
def f_X11_doesHold (a0 : Nat) (x1 : Int32) (x2 : Int32) (σ : zS) : Option (Int32 × zS) := zck (WM.2 a0 = (11, 0)) (zlt (zpi σ a0 31 (0 : Int32)) (fun σ6 => zbd (f_X11_canWrite a0 x2 σ6) (fun r7 σ8 => zbr (r7 = 0) (zck (zb (0 : Int32)) (some ((0 : Int32), σ8))) (zbd (f_X11_more a0 x2 (1 : Int32) σ8) (fun r9 σ10 => zbd (f_X11_layMore a0 x1 σ10) (fun r11 σ12 => zbd (f_X11_unbeaten a0 σ12) (fun r13 σ14 => zbr (r13 = ((σ14.1 a0 28) - (1 : Int32))) (zlt (0 : Int32) (fun v15 => f_X11_doesHold_43 a0 FU x2 v15 σ14)) (zck (zb (0 : Int32)) (some ((0 : Int32), σ14))))))))))
theorem c_X11_doesHold (X : zX) (d : Nat) (hd : 4 ≤ d) (a0 : Nat) (x1 : Int32) (x2 : Int32) (σ : zS) : ∀ (r : Int32) (σ' : zS), f_X11_doesHold a0 x1 x2 σ = some (r, σ') → zCN X WM d M_X11_doesHold [.ref a0, .int x1, .int x2] σ (zeI r, σ') := by
  obtain ⟨d, rfl⟩ : ∃ e, d = e + 1 := ⟨d - 1, by omega⟩
  refine z_entry [.ref a0, .int x1, .int x2] (by decide +kernel) T_X11_doesHold (Nat.le_of_ble_eq_true rfl) ?_
  show zK X WM (zrm (d + 1)) M_X11_doesHold (zZ X WM zeI) 0 [some (.ref a0), some (.int x1), some (.int x2), none] [] σ (f_X11_doesHold a0 x1 x2 σ)
  unfold f_X11_doesHold
  refine z_ck (fun h0 => ?_)
  refine z_aload0 0 1 rfl rfl ?_
  refine z_iconst 1 2 rfl rfl ci_0 ?_
  refine z_putI 2 5 31 rfl rfl zf_X11_358 rfl rfl rfl h0 (fun σ6 => ?_)
  refine z_aload0 3 6 rfl rfl ?_
  refine z_iload2 4 7 rfl rfl ?_
  refine z_cV1I 5 10 rfl rfl zl_X11_364 F_X11_canWrite (zR_rm (by omega)) (c_X11_canWrite X d (by omega) a0 x2 σ6) ⟨by decide, rfl, rfl⟩ h0 rfl (Nat.le_of_ble_eq_true rfl) (fun r7 σ8 => ?_)
  refine z_if_ne 6 13 15 rfl rfl (by decide) ?_ ?_
  · refine z_iconst 7 14 rfl rfl ci_0 ?_
    exact z_zret 8 rfl rfl
  · refine z_aload0 9 16 rfl rfl ?_
    refine z_iload2 10 17 rfl rfl ?_
    refine z_iconst 11 18 rfl rfl ci_1 ?_
    refine z_cV2V 12 21 rfl rfl zl_X11_367 F_X11_more (zR_rm (by omega)) (c_X11_more X d a0 x2 (1 : Int32) σ8) ⟨by decide, rfl, rfl⟩ h0 rfl (Nat.le_of_ble_eq_true rfl) (fun r9 σ10 => ?_)
    refine z_aload0 13 22 rfl rfl ?_
    refine z_iload1 14 23 rfl rfl ?_
    refine z_cV1V 15 26 rfl rfl zl_X11_370 F_X11_layMore (zR_rm (by omega)) (c_X11_layMore X d (by omega) a0 x1 σ10) ⟨by decide, rfl, rfl⟩ h0 rfl (Nat.le_of_ble_eq_true rfl) (fun r11 σ12 => ?_)
    refine z_aload0 16 27 rfl rfl ?_
    refine z_cV0I 17 30 rfl rfl zl_X11_298 F_X11_unbeaten (zR_rm (by omega)) (c_X11_unbeaten X d (by omega) a0 σ12) ⟨by decide, rfl, rfl⟩ h0 rfl (Nat.le_of_ble_eq_true rfl) (fun r13 σ14 => ?_)
    refine z_aload0 18 31 rfl rfl ?_
    refine z_getI 19 34 28 rfl rfl zf_X11_281 rfl h0 ?_
    refine z_iconst 20 35 rfl rfl ci_1 ?_
    refine z_isub 21 36 rfl rfl ?_
    refine z_icmp_eq 22 39 41 rfl rfl (by decide) ?_ ?_
    · refine z_iconst 25 42 rfl rfl ci_0 ?_
      refine z_istore3 26 43 rfl rfl rfl (fun v15 => ?_)
      exact z_wk (zle_e (zle_n (zle_e (zle_e zle_0)))) (t_X11_doesHold_43 X d hd a0 h0  FU x2 v15 σ14)
    · refine z_iconst 23 40 rfl rfl ci_0 ?_
      exact z_zret 24 rfl rfl
def f_X11_holds_53 (a0 : Nat) (H23 : Int32 → Int32 → Int32 → zS → Option (Int32 × zS)) (x1 : Int32) (x4 : Int32) (s0 : Int32) (s1 : Int32) (σ : zS) : Option (Int32 × zS) := zlt (s0 ||| s1) (fun v1 => zlt (x4 + (1 : Int32)) (fun v2 => H23 x1 v1 v2 σ))
theorem t_X11_holds_53 (X : zX) (d : Nat) (hd : 5 ≤ d + 1) (a0 : Nat) (h0 : WM.2 a0 = (11, 0)) (H23 : Int32 → Int32 → Int32 → zS → Option (Int32 × zS)) (hH23 : ∀ (x1 : Int32) (x3 : Int32) (x4 : Int32) (σ : zS), zK X WM (zrm (d + 1)) M_X11_holds (zZ X WM zeI) 23 [some (.ref a0), some (.int x1), none, some (.int x3), some (.int x4)] [] σ (H23 x1 x3 x4 σ)) (x1 : Int32) (x4 : Int32) (s0 : Int32) (s1 : Int32) (σ : zS) : zK X WM (zrm (d + 1)) M_X11_holds (zZ X WM zeI) 53 [some (.ref a0), some (.int x1), none, none, some (.int x4)] [.int s1, .int s0] σ (f_X11_holds_53 a0 H23 x1 x4 s0 s1 σ) := by
  unfold f_X11_holds_53
  refine z_ior 31 54 rfl rfl ?_
  refine z_istore3 32 55 rfl rfl rfl (fun v1 => ?_)
  refine z_iinc4 33 58 rfl rfl ci_1 rfl (fun v2 => ?_)
  refine z_goto 34 23 rfl (by decide) ?_
  exact hH23 x1 v1 v2 σ
def f_X11_holds_23 (a0 : Nat) : Nat → Int32 → Int32 → Int32 → zS → Option (Int32 × zS)
  | 0, _, _, _, _ => none
  | n + 1, x1, x3, x4, σ => zck (zok 100 (WM.2 (σ.2 a0 15)) (1 : Int32)) (zbr ((σ.1 (σ.2 a0 15) (1 : Int32).toNatClampNeg) ≤ x4) (some (x3, σ)) (zbd (f_X11_doesHold a0 x1 x4 σ) (fun r3 σ4 => zbr (r3 = 0) (f_X11_holds_53 a0 (f_X11_holds_23 a0 n) x1 x4 x3 (0 : Int32) σ4) (f_X11_holds_53 a0 (f_X11_holds_23 a0 n) x1 x4 x3 ((1 : Int32) <<< (x4 &&& 31)) σ4))))
theorem t_X11_holds_23 (X : zX) (d : Nat) (hd : 5 ≤ d + 1) (a0 : Nat) (h0 : WM.2 a0 = (11, 0)) : ∀ (n : Nat) (x1 : Int32) (x3 : Int32) (x4 : Int32) (σ : zS), zK X WM (zrm (d + 1)) M_X11_holds (zZ X WM zeI) 23 [some (.ref a0), some (.int x1), none, some (.int x3), some (.int x4)] [] σ (f_X11_holds_23 a0 n x1 x3 x4 σ) := by
  intro n
  induction n with
  | zero => intro x1 x3 x4 σ; exact z_none
  | succ n ih =>
    intro x1 x3 x4 σ
    rw [f_X11_holds_23]
    refine z_iload4 14 25 rfl rfl ?_
    refine z_aload0 15 26 rfl rfl ?_
    refine z_getR 16 29 15 rfl rfl zf_X11_20 rfl h0 ?_
    refine z_iconst 17 30 rfl rfl ci_1 ?_
    refine z_iald 18 31 rfl rfl ?_
    refine z_icmp_ge 19 34 61 rfl rfl (by decide) ?_ ?_
    · refine z_iload3 35 62 rfl rfl ?_
      exact z_iret 36 rfl rfl
    · refine z_iload3 20 35 rfl rfl ?_
      refine z_aload0 21 36 rfl rfl ?_
      refine z_iload1 22 37 rfl rfl ?_
      refine z_iload4 23 39 rfl rfl ?_
      refine z_cV2I 24 42 rfl rfl zl_X11_373 F_X11_doesHold (zR_rm (by omega)) (c_X11_doesHold X d (by omega) a0 x1 x4 σ) ⟨by decide, rfl, rfl⟩ h0 rfl (Nat.le_of_ble_eq_true rfl) (fun r3 σ4 => ?_)
      refine z_if_eq 25 45 52 rfl rfl (by decide) ?_ ?_
      · refine z_iconst 30 53 rfl rfl ci_0 ?_
        exact z_wk (zle_e (zle_e (zle_e (zle_n (zle_e zle_0))))) (t_X11_holds_53 X d hd a0 h0 (f_X11_holds_23 a0 n) ih x1 x4 x3 (0 : Int32) σ4)
      · refine z_iconst 26 46 rfl rfl ci_1 ?_
        refine z_iload4 27 48 rfl rfl ?_
        refine z_ishl 28 49 rfl rfl ?_
        refine z_goto 29 53 rfl (by decide) ?_
        exact z_wk (zle_e (zle_e (zle_e (zle_n (zle_e zle_0))))) (t_X11_holds_53 X d hd a0 h0 (f_X11_holds_23 a0 n) ih x1 x4 x3 ((1 : Int32) <<< (x4 &&& 31)) σ4)
def f_X11_holds (a0 : Nat) (x1 : Int32) (x2 : Int32) (σ : zS) : Option (Int32 × zS) := zck (WM.2 a0 = (11, 0)) (zbd (f_X11_good a0 σ) (fun r5 σ6 => zbd (f_X11_isMatter a0 x1 σ6) (fun r7 σ8 => zbr (r7 = 0) (zbd (f_X11_no a0 (1 : Int32) σ8) (fun r9 σ10 => some (r9, σ10))) (zlt (0 : Int32) (fun v11 => zlt (0 : Int32) (fun v12 => f_X11_holds_23 a0 FU x1 v11 v12 σ8))))))
theorem c_X11_holds (X : zX) (d : Nat) (hd : 5 ≤ d) (a0 : Nat) (x1 : Int32) (x2 : Int32) (σ : zS) : ∀ (r : Int32) (σ' : zS), f_X11_holds a0 x1 x2 σ = some (r, σ') → zCN X WM d M_X11_holds [.ref a0, .int x1, .int x2] σ (zeI r, σ') := by
  obtain ⟨d, rfl⟩ : ∃ e, d = e + 1 := ⟨d - 1, by omega⟩
  refine z_entry [.ref a0, .int x1, .int x2] (by decide +kernel) T_X11_holds (Nat.le_of_ble_eq_true rfl) ?_
  show zK X WM (zrm (d + 1)) M_X11_holds (zZ X WM zeI) 0 [some (.ref a0), some (.int x1), some (.int x2), none, none] [] σ (f_X11_holds a0 x1 x2 σ)
  unfold f_X11_holds
  refine z_ck (fun h0 => ?_)
  refine z_aload0 0 1 rfl rfl ?_
  refine z_cV0V 1 4 rfl rfl zl_X11_178 F_X11_good (zR_rm (by omega)) (c_X11_good X d a0 σ) ⟨by decide, rfl, rfl⟩ h0 rfl (Nat.le_of_ble_eq_true rfl) (fun r5 σ6 => ?_)
  refine z_aload0 2 5 rfl rfl ?_
  refine z_iload1 3 6 rfl rfl ?_
  refine z_cV1I 4 9 rfl rfl zl_X11_336 F_X11_isMatter (zR_rm (by omega)) (c_X11_isMatter X d (by omega) a0 x1 σ6) ⟨by decide, rfl, rfl⟩ h0 rfl (Nat.le_of_ble_eq_true rfl) (fun r7 σ8 => ?_)
  refine z_if_ne 5 12 18 rfl rfl (by decide) ?_ ?_
  · refine z_aload0 6 13 rfl rfl ?_
    refine z_iconst 7 14 rfl rfl ci_1 ?_
    refine z_cV1I 8 17 rfl rfl zl_X11_181 F_X11_no (zR_rm (by omega)) (c_X11_no X d a0 (1 : Int32) σ8) ⟨by decide, rfl, rfl⟩ h0 rfl (Nat.le_of_ble_eq_true rfl) (fun r9 σ10 => ?_)
    exact z_iret 9 rfl rfl
  · refine z_iconst 10 19 rfl rfl ci_0 ?_
    refine z_istore3 11 20 rfl rfl rfl (fun v11 => ?_)
    refine z_iconst 12 21 rfl rfl ci_0 ?_
    refine z_istore4 13 23 rfl rfl rfl (fun v12 => ?_)
    exact z_wk (zle_e (zle_e (zle_n (zle_e (zle_e zle_0))))) (t_X11_holds_23 X d hd a0 h0  FU x1 v11 v12 σ8)
def f_X11_doneIf_76 (a0 : Nat) (x1 : Int32) (s0 : Nat) (s1 : Int32) (s2 : Int32) (σ : zS) : Option (Int32 × zS) := zck (WM.2 s0 = (11, 0)) (zbd (f_X11_more s0 s1 s2 σ) (fun r2 σ3 => zbd (f_X11_layMore a0 x1 σ3) (fun r4 σ5 => zbd (f_X11_listDone a0 σ5) (fun r6 σ7 => some (r6, σ7)))))
theorem t_X11_doneIf_76 (X : zX) (d : Nat) (hd : 5 ≤ d + 1) (a0 : Nat) (h0 : WM.2 a0 = (11, 0)) (x1 : Int32) (s0 : Nat) (s1 : Int32) (s2 : Int32) (σ : zS) : zK X WM (zrm (d + 1)) M_X11_doneIf (zZ X WM zeI) 76 [some (.ref a0), some (.int x1), none, none] [.int s2, .int s1, .ref s0] σ (f_X11_doneIf_76 a0 x1 s0 s1 s2 σ) := by
  unfold f_X11_doneIf_76
  refine z_ck (fun h1 => ?_)
  refine z_cV2V 43 79 rfl rfl zl_X11_367 F_X11_more (zR_rm (by omega)) (c_X11_more X d s0 s1 s2 σ) ⟨by decide, rfl, rfl⟩ h1 rfl (Nat.le_of_ble_eq_true rfl) (fun r2 σ3 => ?_)
  refine z_aload0 44 80 rfl rfl ?_
  refine z_iload1 45 81 rfl rfl ?_
  refine z_cV1V 46 84 rfl rfl zl_X11_370 F_X11_layMore (zR_rm (by omega)) (c_X11_layMore X d (by omega) a0 x1 σ3) ⟨by decide, rfl, rfl⟩ h0 rfl (Nat.le_of_ble_eq_true rfl) (fun r4 σ5 => ?_)
  refine z_aload0 47 85 rfl rfl ?_
  refine z_cV0I 48 88 rfl rfl zl_X11_305 F_X11_listDone (zR_rm (by omega)) (c_X11_listDone X d (by omega) a0 σ5) ⟨by decide, rfl, rfl⟩ h0 rfl (Nat.le_of_ble_eq_true rfl) (fun r6 σ7 => ?_)
  exact z_iret 49 rfl rfl
def f_X11_doneIf_20 (a0 : Nat)  (σ : zS) : Option (Int32 × zS) := zbd (f_X11_no a0 (1 : Int32) σ) (fun r8 σ9 => some (r8, σ9))
theorem t_X11_doneIf_20 (X : zX) (d : Nat) (hd : 5 ≤ d + 1) (a0 : Nat) (h0 : WM.2 a0 = (11, 0))  (σ : zS) : zK X WM (zrm (d + 1)) M_X11_doneIf (zZ X WM zeI) 20 [some (.ref a0), none, none, none] [] σ (f_X11_doneIf_20 a0 σ) := by
  unfold f_X11_doneIf_20
  refine z_aload0 10 21 rfl rfl ?_
  refine z_iconst 11 22 rfl rfl ci_1 ?_
  refine z_cV1I 12 25 rfl rfl zl_X11_181 F_X11_no (zR_rm (by omega)) (c_X11_no X d a0 (1 : Int32) σ) ⟨by decide, rfl, rfl⟩ h0 rfl (Nat.le_of_ble_eq_true rfl) (fun r8 σ9 => ?_)
  exact z_iret 13 rfl rfl
def f_X11_doneIf (a0 : Nat) (x1 : Int32) (x2 : Int32) (x3 : Int32) (σ : zS) : Option (Int32 × zS) := zck (WM.2 a0 = (11, 0)) (zbd (f_X11_good a0 σ) (fun r10 σ11 => zbd (f_X11_isMatter a0 x1 σ11) (fun r12 σ13 => zbr (r12 = 0) (f_X11_doneIf_20 a0 σ13) (zbd (f_X11_isPlace a0 x2 σ13) (fun r14 σ15 => zbr (r14 = 0) (f_X11_doneIf_20 a0 σ15) (zck (zok 100 (WM.2 (σ15.2 a0 19)) (49 : Int32)) (zbd (f_X11_hasBit (σ15.1 (σ15.2 a0 19) (49 : Int32).toNatClampNeg) x2 σ15) (fun r16 σ17 => zbr (r16 = 0) (zlt (zpi σ17 a0 31 (0 : Int32)) (fun σ18 => zbd (f_X11_canWrite a0 x2 σ18) (fun r19 σ20 => zbr (r19 = 0) (zbd (f_X11_no a0 (3 : Int32) σ20) (fun r21 σ22 => some (r21, σ22))) (zbr (x3 = 0) (f_X11_doneIf_76 a0 x1 a0 x2 (0 : Int32) σ20) (f_X11_doneIf_76 a0 x1 a0 x2 (1 : Int32) σ20))))) (zbd (f_X11_no a0 (5 : Int32) σ17) (fun r23 σ24 => some (r23, σ24)))))))))))
theorem c_X11_doneIf (X : zX) (d : Nat) (hd : 5 ≤ d) (a0 : Nat) (x1 : Int32) (x2 : Int32) (x3 : Int32) (σ : zS) : ∀ (r : Int32) (σ' : zS), f_X11_doneIf a0 x1 x2 x3 σ = some (r, σ') → zCN X WM d M_X11_doneIf [.ref a0, .int x1, .int x2, .int x3] σ (zeI r, σ') := by
  obtain ⟨d, rfl⟩ : ∃ e, d = e + 1 := ⟨d - 1, by omega⟩
  refine z_entry [.ref a0, .int x1, .int x2, .int x3] (by decide +kernel) T_X11_doneIf (Nat.le_of_ble_eq_true rfl) ?_
  show zK X WM (zrm (d + 1)) M_X11_doneIf (zZ X WM zeI) 0 [some (.ref a0), some (.int x1), some (.int x2), some (.int x3)] [] σ (f_X11_doneIf a0 x1 x2 x3 σ)
  unfold f_X11_doneIf
  refine z_ck (fun h0 => ?_)
  refine z_aload0 0 1 rfl rfl ?_
  refine z_cV0V 1 4 rfl rfl zl_X11_178 F_X11_good (zR_rm (by omega)) (c_X11_good X d a0 σ) ⟨by decide, rfl, rfl⟩ h0 rfl (Nat.le_of_ble_eq_true rfl) (fun r10 σ11 => ?_)
  refine z_aload0 2 5 rfl rfl ?_
  refine z_iload1 3 6 rfl rfl ?_
  refine z_cV1I 4 9 rfl rfl zl_X11_336 F_X11_isMatter (zR_rm (by omega)) (c_X11_isMatter X d (by omega) a0 x1 σ11) ⟨by decide, rfl, rfl⟩ h0 rfl (Nat.le_of_ble_eq_true rfl) (fun r12 σ13 => ?_)
  refine z_if_eq 5 12 20 rfl rfl (by decide) ?_ ?_
  · exact z_wk (zle_e (zle_n (zle_n (zle_n zle_0)))) (t_X11_doneIf_20 X d hd a0 h0  σ13)
  · refine z_aload0 6 13 rfl rfl ?_
    refine z_iload2 7 14 rfl rfl ?_
    refine z_cV1I 8 17 rfl rfl zl_X11_312 F_X11_isPlace (zR_rm (by omega)) (c_X11_isPlace X d (by omega) a0 x2 σ13) ⟨by decide, rfl, rfl⟩ h0 rfl (Nat.le_of_ble_eq_true rfl) (fun r14 σ15 => ?_)
    refine z_if_ne 9 20 26 rfl rfl (by decide) ?_ ?_
    · exact z_wk (zle_e (zle_n (zle_n (zle_n zle_0)))) (t_X11_doneIf_20 X d hd a0 h0  σ15)
    · refine z_aload0 14 27 rfl rfl ?_
      refine z_getR 15 30 19 rfl rfl zf_X11_32 rfl h0 ?_
      refine z_bipush 16 32 rfl rfl cb_49 ?_
      refine z_iald 17 33 rfl rfl ?_
      refine z_iload2 18 34 rfl rfl ?_
      refine z_cS2I 19 37 rfl rfl zl_X11_277 F_X11_hasBit (zR_rm (by omega)) (c_X11_hasBit X d (σ15.1 (σ15.2 a0 19) (49 : Int32).toNatClampNeg) x2 σ15) rfl (Nat.le_of_ble_eq_true rfl) (fun r16 σ17 => ?_)
      refine z_if_eq 20 40 46 rfl rfl (by decide) ?_ ?_
      · refine z_aload0 25 47 rfl rfl ?_
        refine z_iconst 26 48 rfl rfl ci_0 ?_
        refine z_putI 27 51 31 rfl rfl zf_X11_358 rfl rfl rfl h0 (fun σ18 => ?_)
        refine z_aload0 28 52 rfl rfl ?_
        refine z_iload2 29 53 rfl rfl ?_
        refine z_cV1I 30 56 rfl rfl zl_X11_364 F_X11_canWrite (zR_rm (by omega)) (c_X11_canWrite X d (by omega) a0 x2 σ18) ⟨by decide, rfl, rfl⟩ h0 rfl (Nat.le_of_ble_eq_true rfl) (fun r19 σ20 => ?_)
        refine z_if_ne 31 59 65 rfl rfl (by decide) ?_ ?_
        · refine z_aload0 32 60 rfl rfl ?_
          refine z_iconst 33 61 rfl rfl ci_3 ?_
          refine z_cV1I 34 64 rfl rfl zl_X11_181 F_X11_no (zR_rm (by omega)) (c_X11_no X d a0 (3 : Int32) σ20) ⟨by decide, rfl, rfl⟩ h0 rfl (Nat.le_of_ble_eq_true rfl) (fun r21 σ22 => ?_)
          exact z_iret 35 rfl rfl
        · refine z_aload0 36 66 rfl rfl ?_
          refine z_iload2 37 67 rfl rfl ?_
          refine z_iload3 38 68 rfl rfl ?_
          refine z_if_eq 39 71 75 rfl rfl (by decide) ?_ ?_
          · refine z_iconst 42 76 rfl rfl ci_0 ?_
            exact z_wk (zle_e (zle_e (zle_n (zle_n zle_0)))) (t_X11_doneIf_76 X d hd a0 h0  x1 a0 x2 (0 : Int32) σ20)
          · refine z_iconst 40 72 rfl rfl ci_1 ?_
            refine z_goto 41 76 rfl (by decide) ?_
            exact z_wk (zle_e (zle_e (zle_n (zle_n zle_0)))) (t_X11_doneIf_76 X d hd a0 h0  x1 a0 x2 (1 : Int32) σ20)
      · refine z_aload0 21 41 rfl rfl ?_
        refine z_iconst 22 42 rfl rfl ci_5 ?_
        refine z_cV1I 23 45 rfl rfl zl_X11_181 F_X11_no (zR_rm (by omega)) (c_X11_no X d a0 (5 : Int32) σ17) ⟨by decide, rfl, rfl⟩ h0 rfl (Nat.le_of_ble_eq_true rfl) (fun r23 σ24 => ?_)
        exact z_iret 24 rfl rfl
def f_X11_doesWin_140 (G : Nat → Int32 → Int32 → Int32 → zS → Option (Int32 × zS)) (a0 : Nat) (H57 : Int32 → Int32 → Int32 → Int32 → Int32 → zS → Option (Int32 × zS)) (x1 : Int32) (x2 : Int32) (x3 : Int32) (x4 : Int32) (x5 : Int32) (σ : zS) : Option (Int32 × zS) := zlt (x5 + (1 : Int32)) (fun v1 => H57 x1 x2 x3 x4 v1 σ)
theorem t_X11_doesWin_140 (X : zX) (d : Nat) (hd : 6 ≤ d + 1) (G : Nat → Int32 → Int32 → Int32 → zS → Option (Int32 × zS)) (hG : ∀ (b : Nat) (p0 : Int32) (p1 : Int32) (p2 : Int32) (σ : zS) (r : Int32) (σ' : zS), G b p0 p1 p2 σ = some (r, σ') → zCN X WM d M_X11_doesWin [.ref b, .int p0, .int p1, .int p2] σ (zeI r, σ')) (a0 : Nat) (h0 : WM.2 a0 = (11, 0)) (H57 : Int32 → Int32 → Int32 → Int32 → Int32 → zS → Option (Int32 × zS)) (hH57 : ∀ (x1 : Int32) (x2 : Int32) (x3 : Int32) (x4 : Int32) (x5 : Int32) (σ : zS), zK X WM (zrm (d + 1)) M_X11_doesWin (zZ X WM zeI) 57 [some (.ref a0), some (.int x1), some (.int x2), some (.int x3), some (.int x4), some (.int x5), none] [] σ (H57 x1 x2 x3 x4 x5 σ)) (x1 : Int32) (x2 : Int32) (x3 : Int32) (x4 : Int32) (x5 : Int32) (σ : zS) : zK X WM (zrm (d + 1)) M_X11_doesWin (zZ X WM zeI) 140 [some (.ref a0), some (.int x1), some (.int x2), some (.int x3), some (.int x4), some (.int x5), none] [] σ (f_X11_doesWin_140 G a0 H57 x1 x2 x3 x4 x5 σ) := by
  unfold f_X11_doesWin_140
  refine z_iinc5 79 143 rfl rfl ci_1 rfl (fun v1 => ?_)
  refine z_goto 80 57 rfl (by decide) ?_
  exact hH57 x1 x2 x3 x4 v1 σ
def f_X11_doesWin_93 (G : Nat → Int32 → Int32 → Int32 → zS → Option (Int32 × zS)) (a0 : Nat) (H57 : Int32 → Int32 → Int32 → Int32 → Int32 → zS → Option (Int32 × zS)) (x1 : Int32) (x2 : Int32) (x3 : Int32) (x4 : Int32) (x5 : Int32) (s0 : Nat) (s1 : Int32) (s2 : Int32) (σ : zS) : Option (Int32 × zS) := zck (WM.2 s0 = (11, 0)) (zbd (f_X11_more s0 s1 s2 σ) (fun r3 σ4 => zbd (G a0 x1 (x2 + (1 : Int32)) x3 σ4) (fun r5 σ6 => zlt r5 (fun v7 => zlt (zpi σ6 a0 31 ((σ6.1 a0 31) - (1 : Int32))) (fun σ8 => zbr (v7 = x4) (zbr (x2 = 0) (zlt (zpi σ8 a0 32 x5) (fun σ9 => zck (zb x4) (some (x4, σ9)))) (zck (zb x4) (some (x4, σ8)))) (f_X11_doesWin_140 G a0 H57 x1 x2 x3 x4 x5 σ8))))))
theorem t_X11_doesWin_93 (X : zX) (d : Nat) (hd : 6 ≤ d + 1) (G : Nat → Int32 → Int32 → Int32 → zS → Option (Int32 × zS)) (hG : ∀ (b : Nat) (p0 : Int32) (p1 : Int32) (p2 : Int32) (σ : zS) (r : Int32) (σ' : zS), G b p0 p1 p2 σ = some (r, σ') → zCN X WM d M_X11_doesWin [.ref b, .int p0, .int p1, .int p2] σ (zeI r, σ')) (a0 : Nat) (h0 : WM.2 a0 = (11, 0)) (H57 : Int32 → Int32 → Int32 → Int32 → Int32 → zS → Option (Int32 × zS)) (hH57 : ∀ (x1 : Int32) (x2 : Int32) (x3 : Int32) (x4 : Int32) (x5 : Int32) (σ : zS), zK X WM (zrm (d + 1)) M_X11_doesWin (zZ X WM zeI) 57 [some (.ref a0), some (.int x1), some (.int x2), some (.int x3), some (.int x4), some (.int x5), none] [] σ (H57 x1 x2 x3 x4 x5 σ)) (x1 : Int32) (x2 : Int32) (x3 : Int32) (x4 : Int32) (x5 : Int32) (s0 : Nat) (s1 : Int32) (s2 : Int32) (σ : zS) : zK X WM (zrm (d + 1)) M_X11_doesWin (zZ X WM zeI) 93 [some (.ref a0), some (.int x1), some (.int x2), some (.int x3), some (.int x4), some (.int x5), none] [.int s2, .int s1, .ref s0] σ (f_X11_doesWin_93 G a0 H57 x1 x2 x3 x4 x5 s0 s1 s2 σ) := by
  unfold f_X11_doesWin_93
  refine z_ck (fun h2 => ?_)
  refine z_cV2V 53 96 rfl rfl zl_X11_367 F_X11_more (zR_rm (by omega)) (c_X11_more X d s0 s1 s2 σ) ⟨by decide, rfl, rfl⟩ h2 rfl (Nat.le_of_ble_eq_true rfl) (fun r3 σ4 => ?_)
  refine z_aload0 54 97 rfl rfl ?_
  refine z_iload1 55 98 rfl rfl ?_
  refine z_iload2 56 99 rfl rfl ?_
  refine z_iconst 57 100 rfl rfl ci_1 ?_
  refine z_iadd 58 101 rfl rfl ?_
  refine z_iload3 59 102 rfl rfl ?_
  refine z_cV3I 60 105 rfl rfl zl_X11_376 F_X11_doesWin (zR_rm (by omega)) (hG a0 x1 (x2 + (1 : Int32)) x3 σ4) ⟨by decide, rfl, rfl⟩ h0 rfl (Nat.le_of_ble_eq_true rfl) (fun r5 σ6 => ?_)
  refine z_istore6 61 107 rfl rfl rfl (fun v7 => ?_)
  refine z_aload0 62 108 rfl rfl ?_
  refine z_dup 63 109 rfl rfl rfl ?_
  refine z_getI 64 112 31 rfl rfl zf_X11_358 rfl h0 ?_
  refine z_iconst 65 113 rfl rfl ci_1 ?_
  refine z_isub 66 114 rfl rfl ?_
  refine z_putI 67 117 31 rfl rfl zf_X11_358 rfl rfl rfl h0 (fun σ8 => ?_)
  refine z_iload6 68 119 rfl rfl ?_
  refine z_iload4 69 121 rfl rfl ?_
  refine z_icmp_eq 70 124 127 rfl rfl (by decide) ?_ ?_
  · refine z_iload2 72 128 rfl rfl ?_
    refine z_if_ne 73 131 137 rfl rfl (by decide) ?_ ?_
    · refine z_aload0 74 132 rfl rfl ?_
      refine z_iload5 75 134 rfl rfl ?_
      refine z_putI 76 137 32 rfl rfl zf_X11_379 rfl rfl rfl h0 (fun σ9 => ?_)
      refine z_iload4 77 139 rfl rfl ?_
      exact z_zret 78 rfl rfl
    · refine z_iload4 77 139 rfl rfl ?_
      exact z_zret 78 rfl rfl
  · refine z_goto 71 140 rfl (by decide) ?_
    exact z_wk (zle_e (zle_e (zle_e (zle_e (zle_e (zle_e (zle_n zle_0))))))) (t_X11_doesWin_140 X d hd G hG a0 h0 H57 hH57 x1 x2 x3 x4 x5 σ8)
def f_X11_doesWin_57 (G : Nat → Int32 → Int32 → Int32 → zS → Option (Int32 × zS)) (a0 : Nat) : Nat → Int32 → Int32 → Int32 → Int32 → Int32 → zS → Option (Int32 × zS)
  | 0, _, _, _, _, _, _ => none
  | n + 1, x1, x2, x3, x4, x5, σ => zck (zok 100 (WM.2 (σ.2 a0 15)) (1 : Int32)) (zbr ((σ.1 (σ.2 a0 15) (1 : Int32).toNatClampNeg) ≤ x5) (zbr (x4 = 0) (zck (zb (1 : Int32)) (some ((1 : Int32), σ))) (zck (zb (0 : Int32)) (some ((0 : Int32), σ)))) (zbd (f_X11_canWrite a0 x5 σ) (fun r10 σ11 => zbr (r10 = 0) (f_X11_doesWin_140 G a0 (f_X11_doesWin_57 G a0 n) x1 x2 x3 x4 x5 σ11) (zbr (x4 = 0) (f_X11_doesWin_93 G a0 (f_X11_doesWin_57 G a0 n) x1 x2 x3 x4 x5 a0 x5 (0 : Int32) σ11) (f_X11_doesWin_93 G a0 (f_X11_doesWin_57 G a0 n) x1 x2 x3 x4 x5 a0 x5 (1 : Int32) σ11)))))
theorem t_X11_doesWin_57 (X : zX) (d : Nat) (hd : 6 ≤ d + 1) (G : Nat → Int32 → Int32 → Int32 → zS → Option (Int32 × zS)) (hG : ∀ (b : Nat) (p0 : Int32) (p1 : Int32) (p2 : Int32) (σ : zS) (r : Int32) (σ' : zS), G b p0 p1 p2 σ = some (r, σ') → zCN X WM d M_X11_doesWin [.ref b, .int p0, .int p1, .int p2] σ (zeI r, σ')) (a0 : Nat) (h0 : WM.2 a0 = (11, 0)) : ∀ (n : Nat) (x1 : Int32) (x2 : Int32) (x3 : Int32) (x4 : Int32) (x5 : Int32) (σ : zS), zK X WM (zrm (d + 1)) M_X11_doesWin (zZ X WM zeI) 57 [some (.ref a0), some (.int x1), some (.int x2), some (.int x3), some (.int x4), some (.int x5), none] [] σ (f_X11_doesWin_57 G a0 n x1 x2 x3 x4 x5 σ) := by
  intro n
  induction n with
  | zero => intro x1 x2 x3 x4 x5 σ; exact z_none
  | succ n ih =>
    intro x1 x2 x3 x4 x5 σ
    rw [f_X11_doesWin_57]
    refine z_iload5 35 59 rfl rfl ?_
    refine z_aload0 36 60 rfl rfl ?_
    refine z_getR 37 63 15 rfl rfl zf_X11_20 rfl h0 ?_
    refine z_iconst 38 64 rfl rfl ci_1 ?_
    refine z_iald 39 65 rfl rfl ?_
    refine z_icmp_ge 40 68 146 rfl rfl (by decide) ?_ ?_
    · refine z_iload4 81 148 rfl rfl ?_
      refine z_if_ne 82 151 155 rfl rfl (by decide) ?_ ?_
      · refine z_iconst 83 152 rfl rfl ci_1 ?_
        refine z_goto 84 156 rfl (by decide) ?_
        exact z_zret 86 rfl rfl
      · refine z_iconst 85 156 rfl rfl ci_0 ?_
        exact z_zret 86 rfl rfl
    · refine z_aload0 41 69 rfl rfl ?_
      refine z_iload5 42 71 rfl rfl ?_
      refine z_cV1I 43 74 rfl rfl zl_X11_364 F_X11_canWrite (zR_rm (by omega)) (c_X11_canWrite X d (by omega) a0 x5 σ) ⟨by decide, rfl, rfl⟩ h0 rfl (Nat.le_of_ble_eq_true rfl) (fun r10 σ11 => ?_)
      refine z_if_ne 44 77 80 rfl rfl (by decide) ?_ ?_
      · refine z_goto 45 140 rfl (by decide) ?_
        exact t_X11_doesWin_140 X d hd G hG a0 h0 (f_X11_doesWin_57 G a0 n) ih x1 x2 x3 x4 x5 σ11
      · refine z_aload0 46 81 rfl rfl ?_
        refine z_iload5 47 83 rfl rfl ?_
        refine z_iload4 48 85 rfl rfl ?_
        refine z_if_eq 49 88 92 rfl rfl (by decide) ?_ ?_
        · refine z_iconst 52 93 rfl rfl ci_0 ?_
          exact t_X11_doesWin_93 X d hd G hG a0 h0 (f_X11_doesWin_57 G a0 n) ih x1 x2 x3 x4 x5 a0 x5 (0 : Int32) σ11
        · refine z_iconst 50 89 rfl rfl ci_1 ?_
          refine z_goto 51 93 rfl (by decide) ?_
          exact t_X11_doesWin_93 X d hd G hG a0 h0 (f_X11_doesWin_57 G a0 n) ih x1 x2 x3 x4 x5 a0 x5 (1 : Int32) σ11
def f_X11_doesWin_35 (G : Nat → Int32 → Int32 → Int32 → zS → Option (Int32 × zS)) (a0 : Nat) (x1 : Int32) (x2 : Int32) (x3 : Int32) (s0 : Int32) (σ : zS) : Option (Int32 × zS) := zlt s0 (fun v12 => zbd (G a0 x1 (x2 + (1 : Int32)) x3 σ) (fun r13 σ14 => zbr (r13 = v12) (zck (zb v12) (some (v12, σ14))) (zlt (0 : Int32) (fun v15 => f_X11_doesWin_57 G a0 FU x1 x2 x3 v12 v15 σ14))))
theorem t_X11_doesWin_35 (X : zX) (d : Nat) (hd : 6 ≤ d + 1) (G : Nat → Int32 → Int32 → Int32 → zS → Option (Int32 × zS)) (hG : ∀ (b : Nat) (p0 : Int32) (p1 : Int32) (p2 : Int32) (σ : zS) (r : Int32) (σ' : zS), G b p0 p1 p2 σ = some (r, σ') → zCN X WM d M_X11_doesWin [.ref b, .int p0, .int p1, .int p2] σ (zeI r, σ')) (a0 : Nat) (h0 : WM.2 a0 = (11, 0)) (x1 : Int32) (x2 : Int32) (x3 : Int32) (s0 : Int32) (σ : zS) : zK X WM (zrm (d + 1)) M_X11_doesWin (zZ X WM zeI) 35 [some (.ref a0), some (.int x1), some (.int x2), some (.int x3), none, none, none] [.int s0] σ (f_X11_doesWin_35 G a0 x1 x2 x3 s0 σ) := by
  unfold f_X11_doesWin_35
  refine z_istore4 21 37 rfl rfl rfl (fun v12 => ?_)
  refine z_aload0 22 38 rfl rfl ?_
  refine z_iload1 23 39 rfl rfl ?_
  refine z_iload2 24 40 rfl rfl ?_
  refine z_iconst 25 41 rfl rfl ci_1 ?_
  refine z_iadd 26 42 rfl rfl ?_
  refine z_iload3 27 43 rfl rfl ?_
  refine z_cV3I 28 46 rfl rfl zl_X11_376 F_X11_doesWin (zR_rm (by omega)) (hG a0 x1 (x2 + (1 : Int32)) x3 σ) ⟨by decide, rfl, rfl⟩ h0 rfl (Nat.le_of_ble_eq_true rfl) (fun r13 σ14 => ?_)
  refine z_iload4 29 48 rfl rfl ?_
  refine z_icmp_ne 30 51 54 rfl rfl (by decide) ?_ ?_
  · refine z_iload4 31 53 rfl rfl ?_
    exact z_zret 32 rfl rfl
  · refine z_iconst 33 55 rfl rfl ci_0 ?_
    refine z_istore5 34 57 rfl rfl rfl (fun v15 => ?_)
    exact t_X11_doesWin_57 X d hd G hG a0 h0  FU x1 x2 x3 v12 v15 σ14
def f_X11_doesWin_b (G : Nat → Int32 → Int32 → Int32 → zS → Option (Int32 × zS)) (a0 : Nat) (x1 : Int32) (x2 : Int32) (x3 : Int32) (σ : zS) : Option (Int32 × zS) := zck (WM.2 a0 = (11, 0)) (zbr (x2 = x3) (zbd (f_X11_layMore a0 x1 σ) (fun r16 σ17 => zbd (f_X11_listDone a0 σ17) (fun r18 σ19 => zbr (r18 = (1 : Int32)) (zck (zb (1 : Int32)) (some ((1 : Int32), σ19))) (zck (zb (0 : Int32)) (some ((0 : Int32), σ19)))))) (zck (¬ (2 : Int32) = 0) (zbr ((x2 - x2 / (2 : Int32) * (2 : Int32)) = 0) (f_X11_doesWin_35 G a0 x1 x2 x3 (1 : Int32) σ) (f_X11_doesWin_35 G a0 x1 x2 x3 (0 : Int32) σ))))
theorem c_X11_doesWin_b (X : zX) (d : Nat) (hd : 6 ≤ d + 1) (G : Nat → Int32 → Int32 → Int32 → zS → Option (Int32 × zS)) (hG : ∀ (b : Nat) (p0 : Int32) (p1 : Int32) (p2 : Int32) (σ : zS) (r : Int32) (σ' : zS), G b p0 p1 p2 σ = some (r, σ') → zCN X WM d M_X11_doesWin [.ref b, .int p0, .int p1, .int p2] σ (zeI r, σ')) (a0 : Nat) (x1 : Int32) (x2 : Int32) (x3 : Int32) (σ : zS) : ∀ (r : Int32) (σ' : zS), f_X11_doesWin_b G a0 x1 x2 x3 σ = some (r, σ') → zCN X WM (d + 1) M_X11_doesWin [.ref a0, .int x1, .int x2, .int x3] σ (zeI r, σ') := by
  refine z_entry [.ref a0, .int x1, .int x2, .int x3] (by decide +kernel) T_X11_doesWin (Nat.le_of_ble_eq_true rfl) ?_
  show zK X WM (zrm (d + 1)) M_X11_doesWin (zZ X WM zeI) 0 [some (.ref a0), some (.int x1), some (.int x2), some (.int x3), none, none, none] [] σ (f_X11_doesWin_b G a0 x1 x2 x3 σ)
  unfold f_X11_doesWin_b
  refine z_ck (fun h0 => ?_)
  refine z_iload2 0 1 rfl rfl ?_
  refine z_iload3 1 2 rfl rfl ?_
  refine z_icmp_ne 2 5 24 rfl rfl (by decide) ?_ ?_
  · refine z_aload0 3 6 rfl rfl ?_
    refine z_iload1 4 7 rfl rfl ?_
    refine z_cV1V 5 10 rfl rfl zl_X11_370 F_X11_layMore (zR_rm (by omega)) (c_X11_layMore X d (by omega) a0 x1 σ) ⟨by decide, rfl, rfl⟩ h0 rfl (Nat.le_of_ble_eq_true rfl) (fun r16 σ17 => ?_)
    refine z_aload0 6 11 rfl rfl ?_
    refine z_cV0I 7 14 rfl rfl zl_X11_305 F_X11_listDone (zR_rm (by omega)) (c_X11_listDone X d (by omega) a0 σ17) ⟨by decide, rfl, rfl⟩ h0 rfl (Nat.le_of_ble_eq_true rfl) (fun r18 σ19 => ?_)
    refine z_iconst 8 15 rfl rfl ci_1 ?_
    refine z_icmp_ne 9 18 22 rfl rfl (by decide) ?_ ?_
    · refine z_iconst 10 19 rfl rfl ci_1 ?_
      refine z_goto 11 23 rfl (by decide) ?_
      exact z_zret 13 rfl rfl
    · refine z_iconst 12 23 rfl rfl ci_0 ?_
      exact z_zret 13 rfl rfl
  · refine z_iload2 14 25 rfl rfl ?_
    refine z_iconst 15 26 rfl rfl ci_2 ?_
    refine z_ck (fun h20 => ?_)
    refine z_irem 16 27 rfl rfl h20 ?_
    refine z_if_ne 17 30 34 rfl rfl (by decide) ?_ ?_
    · refine z_iconst 18 31 rfl rfl ci_1 ?_
      refine z_goto 19 35 rfl (by decide) ?_
      exact t_X11_doesWin_35 X d hd G hG a0 h0  x1 x2 x3 (1 : Int32) σ
    · refine z_iconst 20 35 rfl rfl ci_0 ?_
      exact t_X11_doesWin_35 X d hd G hG a0 h0  x1 x2 x3 (0 : Int32) σ
def f_X11_doesWin : Nat → Nat → Int32 → Int32 → Int32 → zS → Option (Int32 × zS)
  | 0, _, _, _, _, _ => none
  | n + 1, a0, x1, x2, x3, σ => f_X11_doesWin_b (f_X11_doesWin n) a0 x1 x2 x3 σ
theorem c_X11_doesWin (X : zX) : ∀ (n d : Nat) (hd : 5 + 1 * n ≤ d) (a0 : Nat) (x1 : Int32) (x2 : Int32) (x3 : Int32) (σ : zS) (r : Int32) (σ' : zS), f_X11_doesWin n a0 x1 x2 x3 σ = some (r, σ') → zCN X WM d M_X11_doesWin [.ref a0, .int x1, .int x2, .int x3] σ (zeI r, σ') := by
  intro n
  induction n with
  | zero => intro d hd a0 x1 x2 x3 σ r σ' h; cases h
  | succ n ih =>
    intro d hd a0 x1 x2 x3 σ r σ' h
    obtain ⟨d, rfl⟩ : ∃ e, d = e + 1 := ⟨d - 1, by omega⟩
    exact c_X11_doesWin_b X d (by omega) (f_X11_doesWin n) (fun a0_ x1_ x2_ x3_ σ r σ' h => ih d (by omega) a0_ x1_ x2_ x3_ σ r σ' h) a0 x1 x2 x3 σ r σ' h
def f_X11_playOf (a0 : Nat) (x1 : Int32) (x2 : Int32) (σ : zS) : Option (Int32 × zS) := zck (WM.2 a0 = (11, 0)) (zlt (zpi σ a0 32 (-2 : Int32)) (fun σ1 => zlt (zpi σ1 a0 31 (0 : Int32)) (fun σ2 => zbd (f_X11_doesWin FUR a0 x1 (0 : Int32) x2 σ2) (fun r3 σ4 => zck (zb r3) (some (r3, σ4))))))
theorem c_X11_playOf (X : zX) (d : Nat) (hd : 16 ≤ d) (a0 : Nat) (x1 : Int32) (x2 : Int32) (σ : zS) : ∀ (r : Int32) (σ' : zS), f_X11_playOf a0 x1 x2 σ = some (r, σ') → zCN X WM d M_X11_playOf [.ref a0, .int x1, .int x2] σ (zeI r, σ') := by
  obtain ⟨d, rfl⟩ : ∃ e, d = e + 1 := ⟨d - 1, by omega⟩
  refine z_entry [.ref a0, .int x1, .int x2] (by decide +kernel) T_X11_playOf (Nat.le_of_ble_eq_true rfl) ?_
  show zK X WM (zrm (d + 1)) M_X11_playOf (zZ X WM zeI) 0 [some (.ref a0), some (.int x1), some (.int x2)] [] σ (f_X11_playOf a0 x1 x2 σ)
  unfold f_X11_playOf
  refine z_ck (fun h0 => ?_)
  refine z_aload0 0 1 rfl rfl ?_
  refine z_bipush 1 3 rfl rfl cb_m2 ?_
  refine z_putI 2 6 32 rfl rfl zf_X11_379 rfl rfl rfl h0 (fun σ1 => ?_)
  refine z_aload0 3 7 rfl rfl ?_
  refine z_iconst 4 8 rfl rfl ci_0 ?_
  refine z_putI 5 11 31 rfl rfl zf_X11_358 rfl rfl rfl h0 (fun σ2 => ?_)
  refine z_aload0 6 12 rfl rfl ?_
  refine z_iload1 7 13 rfl rfl ?_
  refine z_iconst 8 14 rfl rfl ci_0 ?_
  refine z_iload2 9 15 rfl rfl ?_
  refine z_cV3I 10 18 rfl rfl zl_X11_376 F_X11_doesWin (zR_rm (by omega)) (c_X11_doesWin X FUR d (by unfold FUR; omega) a0 x1 (0 : Int32) x2 σ2) ⟨by decide, rfl, rfl⟩ h0 rfl (Nat.le_of_ble_eq_true rfl) (fun r3 σ4 => ?_)
  exact z_zret 11 rfl rfl
def f_X11_wins (a0 : Nat) (x1 : Int32) (x2 : Int32) (σ : zS) : Option (Int32 × zS) := zck (WM.2 a0 = (11, 0)) (zbd (f_X11_good a0 σ) (fun r1 σ2 => zbd (f_X11_isMatter a0 x1 σ2) (fun r3 σ4 => zbd (f_X11_in x2 (0 : Int32) (4 : Int32) σ4) (fun r5 σ6 => zbd (f_X11_why a0 r3 r5 σ6) (fun r7 σ8 => zlt r7 (fun v9 => zbr (v9 = 0) (zbd (f_X11_playOf a0 x1 x2 σ8) (fun r10 σ11 => zbr (r10 = 0) (some ((0 : Int32), σ11)) (some ((1 : Int32), σ11)))) (zbd (f_X11_no a0 v9 σ8) (fun r12 σ13 => some (r12, σ13)))))))))
theorem c_X11_wins (X : zX) (d : Nat) (hd : 17 ≤ d) (a0 : Nat) (x1 : Int32) (x2 : Int32) (σ : zS) : ∀ (r : Int32) (σ' : zS), f_X11_wins a0 x1 x2 σ = some (r, σ') → zCN X WM d M_X11_wins [.ref a0, .int x1, .int x2] σ (zeI r, σ') := by
  obtain ⟨d, rfl⟩ : ∃ e, d = e + 1 := ⟨d - 1, by omega⟩
  refine z_entry [.ref a0, .int x1, .int x2] (by decide +kernel) T_X11_wins (Nat.le_of_ble_eq_true rfl) ?_
  show zK X WM (zrm (d + 1)) M_X11_wins (zZ X WM zeI) 0 [some (.ref a0), some (.int x1), some (.int x2), none] [] σ (f_X11_wins a0 x1 x2 σ)
  unfold f_X11_wins
  refine z_ck (fun h0 => ?_)
  refine z_aload0 0 1 rfl rfl ?_
  refine z_cV0V 1 4 rfl rfl zl_X11_178 F_X11_good (zR_rm (by omega)) (c_X11_good X d a0 σ) ⟨by decide, rfl, rfl⟩ h0 rfl (Nat.le_of_ble_eq_true rfl) (fun r1 σ2 => ?_)
  refine z_aload0 2 5 rfl rfl ?_
  refine z_aload0 3 6 rfl rfl ?_
  refine z_iload1 4 7 rfl rfl ?_
  refine z_cV1I 5 10 rfl rfl zl_X11_336 F_X11_isMatter (zR_rm (by omega)) (c_X11_isMatter X d (by omega) a0 x1 σ2) ⟨by decide, rfl, rfl⟩ h0 rfl (Nat.le_of_ble_eq_true rfl) (fun r3 σ4 => ?_)
  refine z_iload2 6 11 rfl rfl ?_
  refine z_iconst 7 12 rfl rfl ci_0 ?_
  refine z_iconst 8 13 rfl rfl ci_4 ?_
  refine z_cS3I 9 16 rfl rfl zl_X11_157 F_X11_in (zR_rm (by omega)) (c_X11_in X d x2 (0 : Int32) (4 : Int32) σ4) rfl (Nat.le_of_ble_eq_true rfl) (fun r5 σ6 => ?_)
  refine z_cV2I 10 19 rfl rfl zl_X11_348 F_X11_why (zR_rm (by omega)) (c_X11_why X d a0 r3 r5 σ6) ⟨by decide, rfl, rfl⟩ h0 rfl (Nat.le_of_ble_eq_true rfl) (fun r7 σ8 => ?_)
  refine z_istore3 11 20 rfl rfl rfl (fun v9 => ?_)
  refine z_iload3 12 21 rfl rfl ?_
  refine z_if_eq 13 24 30 rfl rfl (by decide) ?_ ?_
  · refine z_aload0 18 31 rfl rfl ?_
    refine z_iload1 19 32 rfl rfl ?_
    refine z_iload2 20 33 rfl rfl ?_
    refine z_cV2I 21 36 rfl rfl zl_X11_382 F_X11_playOf (zR_rm (by omega)) (c_X11_playOf X d (by omega) a0 x1 x2 σ8) ⟨by decide, rfl, rfl⟩ h0 rfl (Nat.le_of_ble_eq_true rfl) (fun r10 σ11 => ?_)
    refine z_if_eq 22 39 43 rfl rfl (by decide) ?_ ?_
    · refine z_iconst 25 44 rfl rfl ci_0 ?_
      exact z_iret 26 rfl rfl
    · refine z_iconst 23 40 rfl rfl ci_1 ?_
      refine z_goto 24 44 rfl (by decide) ?_
      exact z_iret 26 rfl rfl
  · refine z_aload0 14 25 rfl rfl ?_
    refine z_iload3 15 26 rfl rfl ?_
    refine z_cV1I 16 29 rfl rfl zl_X11_181 F_X11_no (zR_rm (by omega)) (c_X11_no X d a0 v9 σ8) ⟨by decide, rfl, rfl⟩ h0 rfl (Nat.le_of_ble_eq_true rfl) (fun r12 σ13 => ?_)
    exact z_iret 17 rfl rfl
def f_X11_winsBy (a0 : Nat) (x1 : Int32) (x2 : Int32) (σ : zS) : Option (Int32 × zS) := zck (WM.2 a0 = (11, 0)) (zbd (f_X11_good a0 σ) (fun r1 σ2 => zbd (f_X11_isMatter a0 x1 σ2) (fun r3 σ4 => zbd (f_X11_in x2 (1 : Int32) (4 : Int32) σ4) (fun r5 σ6 => zbd (f_X11_why a0 r3 r5 σ6) (fun r7 σ8 => zlt r7 (fun v9 => zbr (v9 = 0) (zbd (f_X11_playOf a0 x1 x2 σ8) (fun r10 σ11 => zbr (r10 = 0) (some ((-2 : Int32), σ11)) (some ((σ11.1 a0 32), σ11)))) (zbd (f_X11_no a0 v9 σ8) (fun r12 σ13 => some (r12, σ13)))))))))
theorem c_X11_winsBy (X : zX) (d : Nat) (hd : 17 ≤ d) (a0 : Nat) (x1 : Int32) (x2 : Int32) (σ : zS) : ∀ (r : Int32) (σ' : zS), f_X11_winsBy a0 x1 x2 σ = some (r, σ') → zCN X WM d M_X11_winsBy [.ref a0, .int x1, .int x2] σ (zeI r, σ') := by
  obtain ⟨d, rfl⟩ : ∃ e, d = e + 1 := ⟨d - 1, by omega⟩
  refine z_entry [.ref a0, .int x1, .int x2] (by decide +kernel) T_X11_winsBy (Nat.le_of_ble_eq_true rfl) ?_
  show zK X WM (zrm (d + 1)) M_X11_winsBy (zZ X WM zeI) 0 [some (.ref a0), some (.int x1), some (.int x2), none] [] σ (f_X11_winsBy a0 x1 x2 σ)
  unfold f_X11_winsBy
  refine z_ck (fun h0 => ?_)
  refine z_aload0 0 1 rfl rfl ?_
  refine z_cV0V 1 4 rfl rfl zl_X11_178 F_X11_good (zR_rm (by omega)) (c_X11_good X d a0 σ) ⟨by decide, rfl, rfl⟩ h0 rfl (Nat.le_of_ble_eq_true rfl) (fun r1 σ2 => ?_)
  refine z_aload0 2 5 rfl rfl ?_
  refine z_aload0 3 6 rfl rfl ?_
  refine z_iload1 4 7 rfl rfl ?_
  refine z_cV1I 5 10 rfl rfl zl_X11_336 F_X11_isMatter (zR_rm (by omega)) (c_X11_isMatter X d (by omega) a0 x1 σ2) ⟨by decide, rfl, rfl⟩ h0 rfl (Nat.le_of_ble_eq_true rfl) (fun r3 σ4 => ?_)
  refine z_iload2 6 11 rfl rfl ?_
  refine z_iconst 7 12 rfl rfl ci_1 ?_
  refine z_iconst 8 13 rfl rfl ci_4 ?_
  refine z_cS3I 9 16 rfl rfl zl_X11_157 F_X11_in (zR_rm (by omega)) (c_X11_in X d x2 (1 : Int32) (4 : Int32) σ4) rfl (Nat.le_of_ble_eq_true rfl) (fun r5 σ6 => ?_)
  refine z_cV2I 10 19 rfl rfl zl_X11_348 F_X11_why (zR_rm (by omega)) (c_X11_why X d a0 r3 r5 σ6) ⟨by decide, rfl, rfl⟩ h0 rfl (Nat.le_of_ble_eq_true rfl) (fun r7 σ8 => ?_)
  refine z_istore3 11 20 rfl rfl rfl (fun v9 => ?_)
  refine z_iload3 12 21 rfl rfl ?_
  refine z_if_eq 13 24 30 rfl rfl (by decide) ?_ ?_
  · refine z_aload0 18 31 rfl rfl ?_
    refine z_iload1 19 32 rfl rfl ?_
    refine z_iload2 20 33 rfl rfl ?_
    refine z_cV2I 21 36 rfl rfl zl_X11_382 F_X11_playOf (zR_rm (by omega)) (c_X11_playOf X d (by omega) a0 x1 x2 σ8) ⟨by decide, rfl, rfl⟩ h0 rfl (Nat.le_of_ble_eq_true rfl) (fun r10 σ11 => ?_)
    refine z_if_eq 22 39 46 rfl rfl (by decide) ?_ ?_
    · refine z_bipush 26 48 rfl rfl cb_m2 ?_
      exact z_iret 27 rfl rfl
    · refine z_aload0 23 40 rfl rfl ?_
      refine z_getI 24 43 32 rfl rfl zf_X11_379 rfl h0 ?_
      refine z_goto 25 48 rfl (by decide) ?_
      exact z_iret 27 rfl rfl
  · refine z_aload0 14 25 rfl rfl ?_
    refine z_iload3 15 26 rfl rfl ?_
    refine z_cV1I 16 29 rfl rfl zl_X11_181 F_X11_no (zR_rm (by omega)) (c_X11_no X d a0 v9 σ8) ⟨by decide, rfl, rfl⟩ h0 rfl (Nat.le_of_ble_eq_true rfl) (fun r12 σ13 => ?_)
    exact z_iret 17 rfl rfl
def f_X11_outranks_25 (a0 : Nat)  (σ : zS) : Option (Int32 × zS) := zbd (f_X11_no a0 (1 : Int32) σ) (fun r1 σ2 => some (r1, σ2))
theorem t_X11_outranks_25 (X : zX) (d : Nat) (hd : 2 ≤ d + 1) (a0 : Nat) (h0 : WM.2 a0 = (11, 0))  (σ : zS) : zK X WM (zrm (d + 1)) M_X11_outranks (zZ X WM zeI) 25 [some (.ref a0), none, none] [] σ (f_X11_outranks_25 a0 σ) := by
  unfold f_X11_outranks_25
  refine z_aload0 13 26 rfl rfl ?_
  refine z_iconst 14 27 rfl rfl ci_1 ?_
  refine z_cV1I 15 30 rfl rfl zl_X11_181 F_X11_no (zR_rm (by omega)) (c_X11_no X d a0 (1 : Int32) σ) ⟨by decide, rfl, rfl⟩ h0 rfl (Nat.le_of_ble_eq_true rfl) (fun r1 σ2 => ?_)
  exact z_iret 16 rfl rfl
def f_X11_outranks (a0 : Nat) (x1 : Int32) (x2 : Int32) (σ : zS) : Option (Int32 × zS) := zck (WM.2 a0 = (11, 0)) (zbd (f_X11_good a0 σ) (fun r3 σ4 => zbd (f_X11_isPlace a0 x1 σ4) (fun r5 σ6 => zbr (r5 = 0) (f_X11_outranks_25 a0 σ6) (zbd (f_X11_isPlace a0 x2 σ6) (fun r7 σ8 => zbr (r7 = 0) (f_X11_outranks_25 a0 σ8) (zbr (x1 = x2) (f_X11_outranks_25 a0 σ8) (zbd (f_X11_doesOutrank a0 x1 x2 σ8) (fun r9 σ10 => zbr (r9 = 0) (some ((0 : Int32), σ10)) (some ((1 : Int32), σ10))))))))))
theorem c_X11_outranks (X : zX) (d : Nat) (hd : 2 ≤ d) (a0 : Nat) (x1 : Int32) (x2 : Int32) (σ : zS) : ∀ (r : Int32) (σ' : zS), f_X11_outranks a0 x1 x2 σ = some (r, σ') → zCN X WM d M_X11_outranks [.ref a0, .int x1, .int x2] σ (zeI r, σ') := by
  obtain ⟨d, rfl⟩ : ∃ e, d = e + 1 := ⟨d - 1, by omega⟩
  refine z_entry [.ref a0, .int x1, .int x2] (by decide +kernel) T_X11_outranks (Nat.le_of_ble_eq_true rfl) ?_
  show zK X WM (zrm (d + 1)) M_X11_outranks (zZ X WM zeI) 0 [some (.ref a0), some (.int x1), some (.int x2)] [] σ (f_X11_outranks a0 x1 x2 σ)
  unfold f_X11_outranks
  refine z_ck (fun h0 => ?_)
  refine z_aload0 0 1 rfl rfl ?_
  refine z_cV0V 1 4 rfl rfl zl_X11_178 F_X11_good (zR_rm (by omega)) (c_X11_good X d a0 σ) ⟨by decide, rfl, rfl⟩ h0 rfl (Nat.le_of_ble_eq_true rfl) (fun r3 σ4 => ?_)
  refine z_aload0 2 5 rfl rfl ?_
  refine z_iload1 3 6 rfl rfl ?_
  refine z_cV1I 4 9 rfl rfl zl_X11_312 F_X11_isPlace (zR_rm (by omega)) (c_X11_isPlace X d (by omega) a0 x1 σ4) ⟨by decide, rfl, rfl⟩ h0 rfl (Nat.le_of_ble_eq_true rfl) (fun r5 σ6 => ?_)
  refine z_if_eq 5 12 25 rfl rfl (by decide) ?_ ?_
  · exact z_wk (zle_e (zle_n (zle_n zle_0))) (t_X11_outranks_25 X d hd a0 h0  σ6)
  · refine z_aload0 6 13 rfl rfl ?_
    refine z_iload2 7 14 rfl rfl ?_
    refine z_cV1I 8 17 rfl rfl zl_X11_312 F_X11_isPlace (zR_rm (by omega)) (c_X11_isPlace X d (by omega) a0 x2 σ6) ⟨by decide, rfl, rfl⟩ h0 rfl (Nat.le_of_ble_eq_true rfl) (fun r7 σ8 => ?_)
    refine z_if_eq 9 20 25 rfl rfl (by decide) ?_ ?_
    · exact z_wk (zle_e (zle_n (zle_n zle_0))) (t_X11_outranks_25 X d hd a0 h0  σ8)
    · refine z_iload1 10 21 rfl rfl ?_
      refine z_iload2 11 22 rfl rfl ?_
      refine z_icmp_ne 12 25 31 rfl rfl (by decide) ?_ ?_
      · exact z_wk (zle_e (zle_n (zle_n zle_0))) (t_X11_outranks_25 X d hd a0 h0  σ8)
      · refine z_aload0 17 32 rfl rfl ?_
        refine z_iload1 18 33 rfl rfl ?_
        refine z_iload2 19 34 rfl rfl ?_
        refine z_cV2I 20 37 rfl rfl zl_X11_292 F_X11_doesOutrank (zR_rm (by omega)) (c_X11_doesOutrank X d (by omega) a0 x1 x2 σ8) ⟨by decide, rfl, rfl⟩ h0 rfl (Nat.le_of_ble_eq_true rfl) (fun r9 σ10 => ?_)
        refine z_if_eq 21 40 44 rfl rfl (by decide) ?_ ?_
        · refine z_iconst 24 45 rfl rfl ci_0 ?_
          exact z_iret 25 rfl rfl
        · refine z_iconst 22 41 rfl rfl ci_1 ?_
          refine z_goto 23 45 rfl (by decide) ?_
          exact z_iret 25 rfl rfl
def f_X11_tryRing_114 (G : Nat → Int32 → Int32 → zS → Option (Unit × zS)) (a0 : Nat) (H58 : Int32 → Int32 → Int32 → zS → Option (Unit × zS)) (x1 : Int32) (x2 : Int32) (x3 : Int32) (σ : zS) : Option (Unit × zS) := zlt (x3 + (1 : Int32)) (fun v1 => H58 x1 x2 v1 σ)
theorem t_X11_tryRing_114 (X : zX) (d : Nat) (hd : 3 ≤ d + 1) (G : Nat → Int32 → Int32 → zS → Option (Unit × zS)) (hG : ∀ (b : Nat) (p0 : Int32) (p1 : Int32) (σ : zS) (r : Unit) (σ' : zS), G b p0 p1 σ = some (r, σ') → zCN X WM d M_X11_tryRing [.ref b, .int p0, .int p1] σ (zeV r, σ')) (a0 : Nat) (h0 : WM.2 a0 = (11, 0)) (H58 : Int32 → Int32 → Int32 → zS → Option (Unit × zS)) (hH58 : ∀ (x1 : Int32) (x2 : Int32) (x3 : Int32) (σ : zS), zK X WM (zrm (d + 1)) M_X11_tryRing (zZ X WM zeV) 58 [some (.ref a0), some (.int x1), some (.int x2), some (.int x3)] [] σ (H58 x1 x2 x3 σ)) (x1 : Int32) (x2 : Int32) (x3 : Int32) (σ : zS) : zK X WM (zrm (d + 1)) M_X11_tryRing (zZ X WM zeV) 114 [some (.ref a0), some (.int x1), some (.int x2), some (.int x3)] [] σ (f_X11_tryRing_114 G a0 H58 x1 x2 x3 σ) := by
  unfold f_X11_tryRing_114
  refine z_iinc3 71 117 rfl rfl ci_1 rfl (fun v1 => ?_)
  refine z_goto 72 58 rfl (by decide) ?_
  exact hH58 x1 x2 v1 σ
def f_X11_tryRing_58 (G : Nat → Int32 → Int32 → zS → Option (Unit × zS)) (a0 : Nat) : Nat → Int32 → Int32 → Int32 → zS → Option (Unit × zS)
  | 0, _, _, _, _ => none
  | n + 1, x1, x2, x3, σ => zck (zok 100 (WM.2 (σ.2 a0 15)) (1 : Int32)) (zbr ((σ.1 (σ.2 a0 15) (1 : Int32).toNatClampNeg) ≤ x3) (some ((), σ)) (zbd (f_X11_hasBit x2 x3 σ) (fun r2 σ3 => zbr (r2 = 0) (zck (zok 100 (WM.2 (σ3.2 a0 33)) (x1 - (1 : Int32))) (zbd (f_X11_doesOutrank a0 (σ3.1 (σ3.2 a0 33) (x1 - (1 : Int32)).toNatClampNeg) x3 σ3) (fun r4 σ5 => zbr (r4 = 0) (f_X11_tryRing_114 G a0 (f_X11_tryRing_58 G a0 n) x1 x2 x3 σ5) (zck (zok 100 (WM.2 (σ5.2 a0 33)) x1) (zlt (zpi σ5 (σ5.2 a0 33) x1.toNatClampNeg x3) (fun σ6 => zbd (G a0 (x1 + (1 : Int32)) (x2 ||| ((1 : Int32) <<< (x3 &&& 31))) σ6) (fun r7 σ8 => f_X11_tryRing_114 G a0 (f_X11_tryRing_58 G a0 n) x1 x2 x3 σ8))))))) (f_X11_tryRing_114 G a0 (f_X11_tryRing_58 G a0 n) x1 x2 x3 σ3))))
theorem t_X11_tryRing_58 (X : zX) (d : Nat) (hd : 3 ≤ d + 1) (G : Nat → Int32 → Int32 → zS → Option (Unit × zS)) (hG : ∀ (b : Nat) (p0 : Int32) (p1 : Int32) (σ : zS) (r : Unit) (σ' : zS), G b p0 p1 σ = some (r, σ') → zCN X WM d M_X11_tryRing [.ref b, .int p0, .int p1] σ (zeV r, σ')) (a0 : Nat) (h0 : WM.2 a0 = (11, 0)) : ∀ (n : Nat) (x1 : Int32) (x2 : Int32) (x3 : Int32) (σ : zS), zK X WM (zrm (d + 1)) M_X11_tryRing (zZ X WM zeV) 58 [some (.ref a0), some (.int x1), some (.int x2), some (.int x3)] [] σ (f_X11_tryRing_58 G a0 n x1 x2 x3 σ) := by
  intro n
  induction n with
  | zero => intro x1 x2 x3 σ; exact z_none
  | succ n ih =>
    intro x1 x2 x3 σ
    rw [f_X11_tryRing_58]
    refine z_iload3 35 59 rfl rfl ?_
    refine z_aload0 36 60 rfl rfl ?_
    refine z_getR 37 63 15 rfl rfl zf_X11_20 rfl h0 ?_
    refine z_iconst 38 64 rfl rfl ci_1 ?_
    refine z_iald 39 65 rfl rfl ?_
    refine z_icmp_ge 40 68 120 rfl rfl (by decide) ?_ ?_
    · exact z_vret 73 rfl rfl
    · refine z_iload2 41 69 rfl rfl ?_
      refine z_iload3 42 70 rfl rfl ?_
      refine z_cS2I 43 73 rfl rfl zl_X11_277 F_X11_hasBit (zR_rm (by omega)) (c_X11_hasBit X d x2 x3 σ) rfl (Nat.le_of_ble_eq_true rfl) (fun r2 σ3 => ?_)
      refine z_if_ne 44 76 114 rfl rfl (by decide) ?_ ?_
      · refine z_aload0 45 77 rfl rfl ?_
        refine z_aload0 46 78 rfl rfl ?_
        refine z_getR 47 81 33 rfl rfl zf_X11_56 rfl h0 ?_
        refine z_iload1 48 82 rfl rfl ?_
        refine z_iconst 49 83 rfl rfl ci_1 ?_
        refine z_isub 50 84 rfl rfl ?_
        refine z_iald 51 85 rfl rfl ?_
        refine z_iload3 52 86 rfl rfl ?_
        refine z_cV2I 53 89 rfl rfl zl_X11_292 F_X11_doesOutrank (zR_rm (by omega)) (c_X11_doesOutrank X d (by omega) a0 (σ3.1 (σ3.2 a0 33) (x1 - (1 : Int32)).toNatClampNeg) x3 σ3) ⟨by decide, rfl, rfl⟩ h0 rfl (Nat.le_of_ble_eq_true rfl) (fun r4 σ5 => ?_)
        refine z_if_ne 54 92 95 rfl rfl (by decide) ?_ ?_
        · refine z_goto 55 114 rfl (by decide) ?_
          exact t_X11_tryRing_114 X d hd G hG a0 h0 (f_X11_tryRing_58 G a0 n) ih x1 x2 x3 σ5
        · refine z_aload0 56 96 rfl rfl ?_
          refine z_getR 57 99 33 rfl rfl zf_X11_56 rfl h0 ?_
          refine z_iload1 58 100 rfl rfl ?_
          refine z_iload3 59 101 rfl rfl ?_
          refine z_iast 60 102 rfl rfl (fun σ6 => ?_)
          refine z_aload0 61 103 rfl rfl ?_
          refine z_iload1 62 104 rfl rfl ?_
          refine z_iconst 63 105 rfl rfl ci_1 ?_
          refine z_iadd 64 106 rfl rfl ?_
          refine z_iload2 65 107 rfl rfl ?_
          refine z_iconst 66 108 rfl rfl ci_1 ?_
          refine z_iload3 67 109 rfl rfl ?_
          refine z_ishl 68 110 rfl rfl ?_
          refine z_ior 69 111 rfl rfl ?_
          refine z_cV2V 70 114 rfl rfl zl_X11_388 F_X11_tryRing (zR_rm (by omega)) (hG a0 (x1 + (1 : Int32)) (x2 ||| ((1 : Int32) <<< (x3 &&& 31))) σ6) ⟨by decide, rfl, rfl⟩ h0 rfl (Nat.le_of_ble_eq_true rfl) (fun r7 σ8 => ?_)
          exact t_X11_tryRing_114 X d hd G hG a0 h0 (f_X11_tryRing_58 G a0 n) ih x1 x2 x3 σ8
      · exact t_X11_tryRing_114 X d hd G hG a0 h0 (f_X11_tryRing_58 G a0 n) ih x1 x2 x3 σ3
def f_X11_tryRing_56 (G : Nat → Int32 → Int32 → zS → Option (Unit × zS)) (a0 : Nat) (x1 : Int32) (x2 : Int32) (σ : zS) : Option (Unit × zS) := zlt (0 : Int32) (fun v9 => f_X11_tryRing_58 G a0 FU x1 x2 v9 σ)
theorem t_X11_tryRing_56 (X : zX) (d : Nat) (hd : 3 ≤ d + 1) (G : Nat → Int32 → Int32 → zS → Option (Unit × zS)) (hG : ∀ (b : Nat) (p0 : Int32) (p1 : Int32) (σ : zS) (r : Unit) (σ' : zS), G b p0 p1 σ = some (r, σ') → zCN X WM d M_X11_tryRing [.ref b, .int p0, .int p1] σ (zeV r, σ')) (a0 : Nat) (h0 : WM.2 a0 = (11, 0)) (x1 : Int32) (x2 : Int32) (σ : zS) : zK X WM (zrm (d + 1)) M_X11_tryRing (zZ X WM zeV) 56 [some (.ref a0), some (.int x1), some (.int x2), none] [] σ (f_X11_tryRing_56 G a0 x1 x2 σ) := by
  unfold f_X11_tryRing_56
  refine z_iconst 33 57 rfl rfl ci_0 ?_
  refine z_istore3 34 58 rfl rfl rfl (fun v9 => ?_)
  exact t_X11_tryRing_58 X d hd G hG a0 h0  FU x1 x2 v9 σ
def f_X11_tryRing_b (G : Nat → Int32 → Int32 → zS → Option (Unit × zS)) (a0 : Nat) (x1 : Int32) (x2 : Int32) (σ : zS) : Option (Unit × zS) := zck (WM.2 a0 = (11, 0)) (zbr (x1 < (σ.1 a0 35)) (zbr (x1 ≤ (2 : Int32)) (f_X11_tryRing_56 G a0 x1 x2 σ) (zck (zok 100 (WM.2 (σ.2 a0 33)) (x1 - (1 : Int32))) (zck (zok 100 (WM.2 (σ.2 a0 33)) (0 : Int32)) (zbd (f_X11_doesOutrank a0 (σ.1 (σ.2 a0 33) (x1 - (1 : Int32)).toNatClampNeg) (σ.1 (σ.2 a0 33) (0 : Int32).toNatClampNeg) σ) (fun r10 σ11 => zbr (r10 = 0) (f_X11_tryRing_56 G a0 x1 x2 σ11) (zlt (zpi σ11 a0 35 x1) (fun σ12 => zbd (f_X11_copy (σ12.2 a0 33) (0 : Int32) (σ12.2 a0 34) (0 : Int32) (6 : Int32) σ12) (fun r13 σ14 => some ((), σ14))))))))) (some ((), σ)))
theorem c_X11_tryRing_b (X : zX) (d : Nat) (hd : 3 ≤ d + 1) (G : Nat → Int32 → Int32 → zS → Option (Unit × zS)) (hG : ∀ (b : Nat) (p0 : Int32) (p1 : Int32) (σ : zS) (r : Unit) (σ' : zS), G b p0 p1 σ = some (r, σ') → zCN X WM d M_X11_tryRing [.ref b, .int p0, .int p1] σ (zeV r, σ')) (a0 : Nat) (x1 : Int32) (x2 : Int32) (σ : zS) : ∀ (r : Unit) (σ' : zS), f_X11_tryRing_b G a0 x1 x2 σ = some (r, σ') → zCN X WM (d + 1) M_X11_tryRing [.ref a0, .int x1, .int x2] σ (zeV r, σ') := by
  refine z_entry [.ref a0, .int x1, .int x2] (by decide +kernel) T_X11_tryRing (Nat.le_of_ble_eq_true rfl) ?_
  show zK X WM (zrm (d + 1)) M_X11_tryRing (zZ X WM zeV) 0 [some (.ref a0), some (.int x1), some (.int x2), none] [] σ (f_X11_tryRing_b G a0 x1 x2 σ)
  unfold f_X11_tryRing_b
  refine z_ck (fun h0 => ?_)
  refine z_iload1 0 1 rfl rfl ?_
  refine z_aload0 1 2 rfl rfl ?_
  refine z_getI 2 5 35 rfl rfl zf_X11_385 rfl h0 ?_
  refine z_icmp_lt 3 8 9 rfl rfl (by decide) ?_ ?_
  · refine z_iload1 5 10 rfl rfl ?_
    refine z_iconst 6 11 rfl rfl ci_2 ?_
    refine z_icmp_le 7 14 56 rfl rfl (by decide) ?_ ?_
    · exact t_X11_tryRing_56 X d hd G hG a0 h0  x1 x2 σ
    · refine z_aload0 8 15 rfl rfl ?_
      refine z_aload0 9 16 rfl rfl ?_
      refine z_getR 10 19 33 rfl rfl zf_X11_56 rfl h0 ?_
      refine z_iload1 11 20 rfl rfl ?_
      refine z_iconst 12 21 rfl rfl ci_1 ?_
      refine z_isub 13 22 rfl rfl ?_
      refine z_iald 14 23 rfl rfl ?_
      refine z_aload0 15 24 rfl rfl ?_
      refine z_getR 16 27 33 rfl rfl zf_X11_56 rfl h0 ?_
      refine z_iconst 17 28 rfl rfl ci_0 ?_
      refine z_iald 18 29 rfl rfl ?_
      refine z_cV2I 19 32 rfl rfl zl_X11_292 F_X11_doesOutrank (zR_rm (by omega)) (c_X11_doesOutrank X d (by omega) a0 (σ.1 (σ.2 a0 33) (x1 - (1 : Int32)).toNatClampNeg) (σ.1 (σ.2 a0 33) (0 : Int32).toNatClampNeg) σ) ⟨by decide, rfl, rfl⟩ h0 rfl (Nat.le_of_ble_eq_true rfl) (fun r10 σ11 => ?_)
      refine z_if_eq 20 35 56 rfl rfl (by decide) ?_ ?_
      · exact t_X11_tryRing_56 X d hd G hG a0 h0  x1 x2 σ11
      · refine z_aload0 21 36 rfl rfl ?_
        refine z_iload1 22 37 rfl rfl ?_
        refine z_putI 23 40 35 rfl rfl zf_X11_385 rfl rfl rfl h0 (fun σ12 => ?_)
        refine z_aload0 24 41 rfl rfl ?_
        refine z_getR 25 44 33 rfl rfl zf_X11_56 rfl h0 ?_
        refine z_iconst 26 45 rfl rfl ci_0 ?_
        refine z_aload0 27 46 rfl rfl ?_
        refine z_getR 28 49 34 rfl rfl zf_X11_59 rfl h0 ?_
        refine z_iconst 29 50 rfl rfl ci_0 ?_
        refine z_bipush 30 52 rfl rfl cb_6 ?_
        refine z_cS5V 31 55 rfl rfl zl_X11_187 F_X11_copy (zR_rm (by omega)) (c_X11_copy X d (σ12.2 a0 33) (0 : Int32) (σ12.2 a0 34) (0 : Int32) (6 : Int32) σ12) rfl (Nat.le_of_ble_eq_true rfl) (fun r13 σ14 => ?_)
        exact z_vret 32 rfl rfl
  · exact z_vret 4 rfl rfl
def f_X11_tryRing : Nat → Nat → Int32 → Int32 → zS → Option (Unit × zS)
  | 0, _, _, _, _ => none
  | n + 1, a0, x1, x2, σ => f_X11_tryRing_b (f_X11_tryRing n) a0 x1 x2 σ
theorem c_X11_tryRing (X : zX) : ∀ (n d : Nat) (hd : 2 + 1 * n ≤ d) (a0 : Nat) (x1 : Int32) (x2 : Int32) (σ : zS) (r : Unit) (σ' : zS), f_X11_tryRing n a0 x1 x2 σ = some (r, σ') → zCN X WM d M_X11_tryRing [.ref a0, .int x1, .int x2] σ (zeV r, σ') := by
  intro n
  induction n with
  | zero => intro d hd a0 x1 x2 σ r σ' h; cases h
  | succ n ih =>
    intro d hd a0 x1 x2 σ r σ' h
    obtain ⟨d, rfl⟩ : ∃ e, d = e + 1 := ⟨d - 1, by omega⟩
    exact c_X11_tryRing_b X d (by omega) (f_X11_tryRing n) (fun a0_ x1_ x2_ σ r σ' h => ih d (by omega) a0_ x1_ x2_ σ r σ' h) a0 x1 x2 σ r σ' h
def f_X11_seekRing (a0 : Nat) (x1 : Int32) (σ : zS) : Option (Int32 × zS) := zck (WM.2 a0 = (11, 0)) (zlt (zpi σ a0 35 (1000000 : Int32)) (fun σ1 => zck (zok 100 (WM.2 (σ1.2 a0 33)) (0 : Int32)) (zlt (zpi σ1 (σ1.2 a0 33) (0 : Int32).toNatClampNeg x1) (fun σ2 => zbd (f_X11_tryRing FUR a0 (1 : Int32) ((1 : Int32) <<< (x1 &&& 31)) σ2) (fun r3 σ4 => zbr ((1000000 : Int32) ≤ (σ4.1 a0 35)) (zck (zb (0 : Int32)) (some ((0 : Int32), σ4))) (zck (zb (1 : Int32)) (some ((1 : Int32), σ4))))))))
theorem c_X11_seekRing (X : zX) (d : Nat) (hd : 13 ≤ d) (a0 : Nat) (x1 : Int32) (σ : zS) : ∀ (r : Int32) (σ' : zS), f_X11_seekRing a0 x1 σ = some (r, σ') → zCN X WM d M_X11_seekRing [.ref a0, .int x1] σ (zeI r, σ') := by
  obtain ⟨d, rfl⟩ : ∃ e, d = e + 1 := ⟨d - 1, by omega⟩
  refine z_entry [.ref a0, .int x1] (by decide +kernel) T_X11_seekRing (Nat.le_of_ble_eq_true rfl) ?_
  show zK X WM (zrm (d + 1)) M_X11_seekRing (zZ X WM zeI) 0 [some (.ref a0), some (.int x1)] [] σ (f_X11_seekRing a0 x1 σ)
  unfold f_X11_seekRing
  refine z_ck (fun h0 => ?_)
  refine z_aload0 0 1 rfl rfl ?_
  refine z_ldcwI 1 4 rfl rfl (v := (1000000 : Int32)) (zTT_in (i := 1806) (by decide +kernel) rfl) ?_
  refine z_putI 2 7 35 rfl rfl zf_X11_385 rfl rfl rfl h0 (fun σ1 => ?_)
  refine z_aload0 3 8 rfl rfl ?_
  refine z_getR 4 11 33 rfl rfl zf_X11_56 rfl h0 ?_
  refine z_iconst 5 12 rfl rfl ci_0 ?_
  refine z_iload1 6 13 rfl rfl ?_
  refine z_iast 7 14 rfl rfl (fun σ2 => ?_)
  refine z_aload0 8 15 rfl rfl ?_
  refine z_iconst 9 16 rfl rfl ci_1 ?_
  refine z_iconst 10 17 rfl rfl ci_1 ?_
  refine z_iload1 11 18 rfl rfl ?_
  refine z_ishl 12 19 rfl rfl ?_
  refine z_cV2V 13 22 rfl rfl zl_X11_388 F_X11_tryRing (zR_rm (by omega)) (c_X11_tryRing X FUR d (by unfold FUR; omega) a0 (1 : Int32) ((1 : Int32) <<< (x1 &&& 31)) σ2) ⟨by decide, rfl, rfl⟩ h0 rfl (Nat.le_of_ble_eq_true rfl) (fun r3 σ4 => ?_)
  refine z_aload0 14 23 rfl rfl ?_
  refine z_getI 15 26 35 rfl rfl zf_X11_385 rfl h0 ?_
  refine z_ldcwI 16 29 rfl rfl (v := (1000000 : Int32)) (zTT_in (i := 1806) (by decide +kernel) rfl) ?_
  refine z_icmp_ge 17 32 36 rfl rfl (by decide) ?_ ?_
  · refine z_iconst 20 37 rfl rfl ci_0 ?_
    exact z_zret 21 rfl rfl
  · refine z_iconst 18 33 rfl rfl ci_1 ?_
    refine z_goto 19 37 rfl (by decide) ?_
    exact z_zret 21 rfl rfl
def f_X11_ring (a0 : Nat) (x1 : Int32) (σ : zS) : Option (Int32 × zS) := zck (WM.2 a0 = (11, 0)) (zbd (f_X11_good a0 σ) (fun r1 σ2 => zbd (f_X11_isPlace a0 x1 σ2) (fun r3 σ4 => zbr (r3 = 0) (zbd (f_X11_no a0 (1 : Int32) σ4) (fun r5 σ6 => some (r5, σ6))) (zbd (f_X11_seekRing a0 x1 σ4) (fun r7 σ8 => zbr (r7 = 0) (some ((-2 : Int32), σ8)) (some ((σ8.1 a0 35), σ8)))))))
theorem c_X11_ring (X : zX) (d : Nat) (hd : 14 ≤ d) (a0 : Nat) (x1 : Int32) (σ : zS) : ∀ (r : Int32) (σ' : zS), f_X11_ring a0 x1 σ = some (r, σ') → zCN X WM d M_X11_ring [.ref a0, .int x1] σ (zeI r, σ') := by
  obtain ⟨d, rfl⟩ : ∃ e, d = e + 1 := ⟨d - 1, by omega⟩
  refine z_entry [.ref a0, .int x1] (by decide +kernel) T_X11_ring (Nat.le_of_ble_eq_true rfl) ?_
  show zK X WM (zrm (d + 1)) M_X11_ring (zZ X WM zeI) 0 [some (.ref a0), some (.int x1)] [] σ (f_X11_ring a0 x1 σ)
  unfold f_X11_ring
  refine z_ck (fun h0 => ?_)
  refine z_aload0 0 1 rfl rfl ?_
  refine z_cV0V 1 4 rfl rfl zl_X11_178 F_X11_good (zR_rm (by omega)) (c_X11_good X d a0 σ) ⟨by decide, rfl, rfl⟩ h0 rfl (Nat.le_of_ble_eq_true rfl) (fun r1 σ2 => ?_)
  refine z_aload0 2 5 rfl rfl ?_
  refine z_iload1 3 6 rfl rfl ?_
  refine z_cV1I 4 9 rfl rfl zl_X11_312 F_X11_isPlace (zR_rm (by omega)) (c_X11_isPlace X d (by omega) a0 x1 σ2) ⟨by decide, rfl, rfl⟩ h0 rfl (Nat.le_of_ble_eq_true rfl) (fun r3 σ4 => ?_)
  refine z_if_ne 5 12 18 rfl rfl (by decide) ?_ ?_
  · refine z_aload0 6 13 rfl rfl ?_
    refine z_iconst 7 14 rfl rfl ci_1 ?_
    refine z_cV1I 8 17 rfl rfl zl_X11_181 F_X11_no (zR_rm (by omega)) (c_X11_no X d a0 (1 : Int32) σ4) ⟨by decide, rfl, rfl⟩ h0 rfl (Nat.le_of_ble_eq_true rfl) (fun r5 σ6 => ?_)
    exact z_iret 9 rfl rfl
  · refine z_aload0 10 19 rfl rfl ?_
    refine z_iload1 11 20 rfl rfl ?_
    refine z_cV1I 12 23 rfl rfl zl_X11_392 F_X11_seekRing (zR_rm (by omega)) (c_X11_seekRing X d (by omega) a0 x1 σ4) ⟨by decide, rfl, rfl⟩ h0 rfl (Nat.le_of_ble_eq_true rfl) (fun r7 σ8 => ?_)
    refine z_if_eq 13 26 33 rfl rfl (by decide) ?_ ?_
    · refine z_bipush 17 35 rfl rfl cb_m2 ?_
      exact z_iret 18 rfl rfl
    · refine z_aload0 14 27 rfl rfl ?_
      refine z_getI 15 30 35 rfl rfl zf_X11_385 rfl h0 ?_
      refine z_goto 16 35 rfl (by decide) ?_
      exact z_iret 18 rfl rfl
def f_X11_ringAt_34 (a0 : Nat)  (σ : zS) : Option (Int32 × zS) := zbd (f_X11_no a0 (1 : Int32) σ) (fun r1 σ2 => some (r1, σ2))
theorem t_X11_ringAt_34 (X : zX) (d : Nat) (hd : 14 ≤ d + 1) (a0 : Nat) (h0 : WM.2 a0 = (11, 0))  (σ : zS) : zK X WM (zrm (d + 1)) M_X11_ringAt (zZ X WM zeI) 34 [some (.ref a0), none, none] [] σ (f_X11_ringAt_34 a0 σ) := by
  unfold f_X11_ringAt_34
  refine z_aload0 18 35 rfl rfl ?_
  refine z_iconst 19 36 rfl rfl ci_1 ?_
  refine z_cV1I 20 39 rfl rfl zl_X11_181 F_X11_no (zR_rm (by omega)) (c_X11_no X d a0 (1 : Int32) σ) ⟨by decide, rfl, rfl⟩ h0 rfl (Nat.le_of_ble_eq_true rfl) (fun r1 σ2 => ?_)
  exact z_iret 21 rfl rfl
def f_X11_ringAt (a0 : Nat) (x1 : Int32) (x2 : Int32) (σ : zS) : Option (Int32 × zS) := zck (WM.2 a0 = (11, 0)) (zbd (f_X11_good a0 σ) (fun r3 σ4 => zbd (f_X11_isPlace a0 x1 σ4) (fun r5 σ6 => zbr (r5 = 0) (f_X11_ringAt_34 a0 σ6) (zbd (f_X11_seekRing a0 x1 σ6) (fun r7 σ8 => zbr (r7 = 0) (f_X11_ringAt_34 a0 σ8) (zbd (f_X11_in x2 (0 : Int32) ((σ8.1 a0 35) - (1 : Int32)) σ8) (fun r9 σ10 => zbr (r9 = 0) (f_X11_ringAt_34 a0 σ10) (zck (zok 100 (WM.2 (σ10.2 a0 34)) x2) (some ((σ10.1 (σ10.2 a0 34) x2.toNatClampNeg), σ10))))))))))
theorem c_X11_ringAt (X : zX) (d : Nat) (hd : 14 ≤ d) (a0 : Nat) (x1 : Int32) (x2 : Int32) (σ : zS) : ∀ (r : Int32) (σ' : zS), f_X11_ringAt a0 x1 x2 σ = some (r, σ') → zCN X WM d M_X11_ringAt [.ref a0, .int x1, .int x2] σ (zeI r, σ') := by
  obtain ⟨d, rfl⟩ : ∃ e, d = e + 1 := ⟨d - 1, by omega⟩
  refine z_entry [.ref a0, .int x1, .int x2] (by decide +kernel) T_X11_ringAt (Nat.le_of_ble_eq_true rfl) ?_
  show zK X WM (zrm (d + 1)) M_X11_ringAt (zZ X WM zeI) 0 [some (.ref a0), some (.int x1), some (.int x2)] [] σ (f_X11_ringAt a0 x1 x2 σ)
  unfold f_X11_ringAt
  refine z_ck (fun h0 => ?_)
  refine z_aload0 0 1 rfl rfl ?_
  refine z_cV0V 1 4 rfl rfl zl_X11_178 F_X11_good (zR_rm (by omega)) (c_X11_good X d a0 σ) ⟨by decide, rfl, rfl⟩ h0 rfl (Nat.le_of_ble_eq_true rfl) (fun r3 σ4 => ?_)
  refine z_aload0 2 5 rfl rfl ?_
  refine z_iload1 3 6 rfl rfl ?_
  refine z_cV1I 4 9 rfl rfl zl_X11_312 F_X11_isPlace (zR_rm (by omega)) (c_X11_isPlace X d (by omega) a0 x1 σ4) ⟨by decide, rfl, rfl⟩ h0 rfl (Nat.le_of_ble_eq_true rfl) (fun r5 σ6 => ?_)
  refine z_if_eq 5 12 34 rfl rfl (by decide) ?_ ?_
  · exact z_wk (zle_e (zle_n (zle_n zle_0))) (t_X11_ringAt_34 X d hd a0 h0  σ6)
  · refine z_aload0 6 13 rfl rfl ?_
    refine z_iload1 7 14 rfl rfl ?_
    refine z_cV1I 8 17 rfl rfl zl_X11_392 F_X11_seekRing (zR_rm (by omega)) (c_X11_seekRing X d (by omega) a0 x1 σ6) ⟨by decide, rfl, rfl⟩ h0 rfl (Nat.le_of_ble_eq_true rfl) (fun r7 σ8 => ?_)
    refine z_if_eq 9 20 34 rfl rfl (by decide) ?_ ?_
    · exact z_wk (zle_e (zle_n (zle_n zle_0))) (t_X11_ringAt_34 X d hd a0 h0  σ8)
    · refine z_iload2 10 21 rfl rfl ?_
      refine z_iconst 11 22 rfl rfl ci_0 ?_
      refine z_aload0 12 23 rfl rfl ?_
      refine z_getI 13 26 35 rfl rfl zf_X11_385 rfl h0 ?_
      refine z_iconst 14 27 rfl rfl ci_1 ?_
      refine z_isub 15 28 rfl rfl ?_
      refine z_cS3I 16 31 rfl rfl zl_X11_157 F_X11_in (zR_rm (by omega)) (c_X11_in X d x2 (0 : Int32) ((σ8.1 a0 35) - (1 : Int32)) σ8) rfl (Nat.le_of_ble_eq_true rfl) (fun r9 σ10 => ?_)
      refine z_if_ne 17 34 40 rfl rfl (by decide) ?_ ?_
      · exact z_wk (zle_e (zle_n (zle_n zle_0))) (t_X11_ringAt_34 X d hd a0 h0  σ10)
      · refine z_aload0 22 41 rfl rfl ?_
        refine z_getR 23 44 34 rfl rfl zf_X11_59 rfl h0 ?_
        refine z_iload2 24 45 rfl rfl ?_
        refine z_iald 25 46 rfl rfl ?_
        exact z_iret 26 rfl rfl
def f_X11_hasRing_2 (a0 : Nat) : Nat → Int32 → zS → Option (Int32 × zS)
  | 0, _, _ => none
  | n + 1, x1, σ => zck (zok 100 (WM.2 (σ.2 a0 15)) (1 : Int32)) (zbr ((σ.1 (σ.2 a0 15) (1 : Int32).toNatClampNeg) ≤ x1) (zck (zb (0 : Int32)) (some ((0 : Int32), σ))) (zbd (f_X11_seekRing a0 x1 σ) (fun r1 σ2 => zbr (r1 = 0) (zlt (x1 + (1 : Int32)) (fun v3 => f_X11_hasRing_2 a0 n v3 σ2)) (zck (zb (1 : Int32)) (some ((1 : Int32), σ2))))))
theorem t_X11_hasRing_2 (X : zX) (d : Nat) (hd : 14 ≤ d + 1) (a0 : Nat) (h0 : WM.2 a0 = (11, 0)) : ∀ (n : Nat) (x1 : Int32) (σ : zS), zK X WM (zrm (d + 1)) M_X11_hasRing (zZ X WM zeI) 2 [some (.ref a0), some (.int x1)] [] σ (f_X11_hasRing_2 a0 n x1 σ) := by
  intro n
  induction n with
  | zero => intro x1 σ; exact z_none
  | succ n ih =>
    intro x1 σ
    rw [f_X11_hasRing_2]
    refine z_iload1 2 3 rfl rfl ?_
    refine z_aload0 3 4 rfl rfl ?_
    refine z_getR 4 7 15 rfl rfl zf_X11_20 rfl h0 ?_
    refine z_iconst 5 8 rfl rfl ci_1 ?_
    refine z_iald 6 9 rfl rfl ?_
    refine z_icmp_ge 7 12 28 rfl rfl (by decide) ?_ ?_
    · refine z_iconst 16 29 rfl rfl ci_0 ?_
      exact z_zret 17 rfl rfl
    · refine z_aload0 8 13 rfl rfl ?_
      refine z_iload1 9 14 rfl rfl ?_
      refine z_cV1I 10 17 rfl rfl zl_X11_392 F_X11_seekRing (zR_rm (by omega)) (c_X11_seekRing X d (by omega) a0 x1 σ) ⟨by decide, rfl, rfl⟩ h0 rfl (Nat.le_of_ble_eq_true rfl) (fun r1 σ2 => ?_)
      refine z_if_eq 11 20 22 rfl rfl (by decide) ?_ ?_
      · refine z_iinc1 14 25 rfl rfl ci_1 rfl (fun v3 => ?_)
        refine z_goto 15 2 rfl (by decide) ?_
        exact ih v3 σ2
      · refine z_iconst 12 21 rfl rfl ci_1 ?_
        exact z_zret 13 rfl rfl
def f_X11_hasRing (a0 : Nat) (σ : zS) : Option (Int32 × zS) := zck (WM.2 a0 = (11, 0)) (zlt (0 : Int32) (fun v4 => f_X11_hasRing_2 a0 FU v4 σ))
theorem c_X11_hasRing (X : zX) (d : Nat) (hd : 14 ≤ d) (a0 : Nat) (σ : zS) : ∀ (r : Int32) (σ' : zS), f_X11_hasRing a0 σ = some (r, σ') → zCN X WM d M_X11_hasRing [.ref a0] σ (zeI r, σ') := by
  obtain ⟨d, rfl⟩ : ∃ e, d = e + 1 := ⟨d - 1, by omega⟩
  refine z_entry [.ref a0] (by decide +kernel) T_X11_hasRing (Nat.le_of_ble_eq_true rfl) ?_
  show zK X WM (zrm (d + 1)) M_X11_hasRing (zZ X WM zeI) 0 [some (.ref a0), none] [] σ (f_X11_hasRing a0 σ)
  unfold f_X11_hasRing
  refine z_ck (fun h0 => ?_)
  refine z_iconst 0 1 rfl rfl ci_0 ?_
  refine z_istore1 1 2 rfl rfl rfl (fun v4 => ?_)
  exact t_X11_hasRing_2 X d hd a0 h0  FU v4 σ
