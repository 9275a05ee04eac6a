def f_X11_free_66 (a0 : Nat) (H22 : Int32 → Int32 → zS → Option (Int32 × zS)) (x1 : Int32) (x2 : Int32) (σ : zS) : Option (Int32 × zS) := zlt (x2 + (1 : Int32)) (fun v1 => H22 x1 v1 σ)
theorem t_X11_free_66 (X : zX) (d : Nat) (hd : 15 ≤ d + 1) (a0 : Nat) (h0 : WM.2 a0 = (11, 0)) (H22 : Int32 → Int32 → zS → Option (Int32 × zS)) (hH22 : ∀ (x1 : Int32) (x2 : Int32) (σ : zS), zK X WM (zrm (d + 1)) M_X11_free (zZ X WM zeI) 22 [some (.ref a0), some (.int x1), some (.int x2)] [] σ (H22 x1 x2 σ)) (x1 : Int32) (x2 : Int32) (σ : zS) : zK X WM (zrm (d + 1)) M_X11_free (zZ X WM zeI) 66 [some (.ref a0), some (.int x1), some (.int x2)] [] σ (f_X11_free_66 a0 H22 x1 x2 σ) := by
  unfold f_X11_free_66
  refine z_iinc2 37 69 rfl rfl ci_1 rfl (fun v1 => ?_)
  refine z_goto 38 22 rfl (by decide) ?_
  exact hH22 x1 v1 σ
def f_X11_free_52 (a0 : Nat) (H22 : Int32 → Int32 → zS → Option (Int32 × zS)) (x1 : Int32) (x2 : Int32) (σ : zS) : Option (Int32 × zS) := zlt (zpi σ a0 24 x2) (fun σ2 => zbd (f_X11_hasRing a0 σ2) (fun r3 σ4 => zbr (r3 = 0) (zlt x2 (fun v5 => f_X11_free_66 a0 H22 v5 x2 σ4)) (f_X11_free_66 a0 H22 x1 x2 σ4)))
theorem t_X11_free_52 (X : zX) (d : Nat) (hd : 15 ≤ d + 1) (a0 : Nat) (h0 : WM.2 a0 = (11, 0)) (H22 : Int32 → Int32 → zS → Option (Int32 × zS)) (hH22 : ∀ (x1 : Int32) (x2 : Int32) (σ : zS), zK X WM (zrm (d + 1)) M_X11_free (zZ X WM zeI) 22 [some (.ref a0), some (.int x1), some (.int x2)] [] σ (H22 x1 x2 σ)) (x1 : Int32) (x2 : Int32) (σ : zS) : zK X WM (zrm (d + 1)) M_X11_free (zZ X WM zeI) 52 [some (.ref a0), some (.int x1), some (.int x2)] [] σ (f_X11_free_52 a0 H22 x1 x2 σ) := by
  unfold f_X11_free_52
  refine z_aload0 29 53 rfl rfl ?_
  refine z_iload2 30 54 rfl rfl ?_
  refine z_putI 31 57 24 rfl rfl zf_X11_274 rfl rfl rfl h0 (fun σ2 => ?_)
  refine z_aload0 32 58 rfl rfl ?_
  refine z_cV0I 33 61 rfl rfl zl_X11_395 F_X11_hasRing (zR_rm (by omega)) (c_X11_hasRing X d (by omega) a0 σ2) ⟨by decide, rfl, rfl⟩ h0 rfl (Nat.le_of_ble_eq_true rfl) (fun r3 σ4 => ?_)
  refine z_if_ne 34 64 66 rfl rfl (by decide) ?_ ?_
  · refine z_iload2 35 65 rfl rfl ?_
    refine z_istore1 36 66 rfl rfl rfl (fun v5 => ?_)
    exact t_X11_free_66 X d hd a0 h0 H22 hH22 v5 x2 σ4
  · exact t_X11_free_66 X d hd a0 h0 H22 hH22 x1 x2 σ4
def f_X11_free_22 (a0 : Nat) : Nat → Int32 → Int32 → zS → Option (Int32 × zS)
  | 0, _, _, _ => none
  | n + 1, x1, x2, σ => zck (zok 100 (WM.2 (σ.2 a0 15)) (2 : Int32)) (zbr (((1 : Int32) <<< ((σ.1 (σ.2 a0 15) (2 : Int32).toNatClampNeg) &&& 31)) ≤ x2) (zlt (zpi σ a0 24 (0 : Int32)) (fun σ6 => some (x1, σ6))) (zbr (x1 < 0) (f_X11_free_52 a0 (f_X11_free_22 a0 n) x1 x2 σ) (zbd (f_X11_ones x2 σ) (fun r7 σ8 => zbd (f_X11_ones x1 σ8) (fun r9 σ10 => zbr (r7 < r9) (f_X11_free_52 a0 (f_X11_free_22 a0 n) x1 x2 σ10) (f_X11_free_66 a0 (f_X11_free_22 a0 n) x1 x2 σ10))))))
theorem t_X11_free_22 (X : zX) (d : Nat) (hd : 15 ≤ d + 1) (a0 : Nat) (h0 : WM.2 a0 = (11, 0)) : ∀ (n : Nat) (x1 : Int32) (x2 : Int32) (σ : zS), zK X WM (zrm (d + 1)) M_X11_free (zZ X WM zeI) 22 [some (.ref a0), some (.int x1), some (.int x2)] [] σ (f_X11_free_22 a0 n x1 x2 σ) := by
  intro n
  induction n with
  | zero => intro x1 x2 σ; exact z_none
  | succ n ih =>
    intro x1 x2 σ
    rw [f_X11_free_22]
    refine z_iload2 13 23 rfl rfl ?_
    refine z_iconst 14 24 rfl rfl ci_1 ?_
    refine z_aload0 15 25 rfl rfl ?_
    refine z_getR 16 28 15 rfl rfl zf_X11_20 rfl h0 ?_
    refine z_iconst 17 29 rfl rfl ci_2 ?_
    refine z_iald 18 30 rfl rfl ?_
    refine z_ishl 19 31 rfl rfl ?_
    refine z_icmp_ge 20 34 72 rfl rfl (by decide) ?_ ?_
    · refine z_aload0 39 73 rfl rfl ?_
      refine z_iconst 40 74 rfl rfl ci_0 ?_
      refine z_putI 41 77 24 rfl rfl zf_X11_274 rfl rfl rfl h0 (fun σ6 => ?_)
      refine z_iload1 42 78 rfl rfl ?_
      exact z_iret 43 rfl rfl
    · refine z_iload1 21 35 rfl rfl ?_
      refine z_if_lt 22 38 52 rfl rfl (by decide) ?_ ?_
      · exact t_X11_free_52 X d hd a0 h0 (f_X11_free_22 a0 n) ih x1 x2 σ
      · refine z_iload2 23 39 rfl rfl ?_
        refine z_cS1I 24 42 rfl rfl zl_X11_342 F_X11_ones (zR_rm (by omega)) (c_X11_ones X d x2 σ) rfl (Nat.le_of_ble_eq_true rfl) (fun r7 σ8 => ?_)
        refine z_iload1 25 43 rfl rfl ?_
        refine z_cS1I 26 46 rfl rfl zl_X11_342 F_X11_ones (zR_rm (by omega)) (c_X11_ones X d x1 σ8) rfl (Nat.le_of_ble_eq_true rfl) (fun r9 σ10 => ?_)
        refine z_icmp_lt 27 49 52 rfl rfl (by decide) ?_ ?_
        · exact t_X11_free_52 X d hd a0 h0 (f_X11_free_22 a0 n) ih x1 x2 σ10
        · refine z_goto 28 66 rfl (by decide) ?_
          exact t_X11_free_66 X d hd a0 h0 (f_X11_free_22 a0 n) ih x1 x2 σ10
def f_X11_free (a0 : Nat) (σ : zS) : Option (Int32 × zS) := zck (WM.2 a0 = (11, 0)) (zbd (f_X11_good a0 σ) (fun r11 σ12 => zbr ((σ12.1 a0 14) = 0) (zbd (f_X11_no a0 (1 : Int32) σ12) (fun r13 σ14 => some (r13, σ14))) (zlt (-2 : Int32) (fun v15 => zlt (0 : Int32) (fun v16 => f_X11_free_22 a0 FU v15 v16 σ12)))))
theorem c_X11_free (X : zX) (d : Nat) (hd : 15 ≤ d) (a0 : Nat) (σ : zS) : ∀ (r : Int32) (σ' : zS), f_X11_free a0 σ = some (r, σ') → zCN X WM d M_X11_free [.ref a0] σ (zeI r, σ') := by
  obtain ⟨d, rfl⟩ : ∃ e, d = e + 1 := ⟨d - 1, by omega⟩
  refine z_entry [.ref a0] (by decide +kernel) T_X11_free (Nat.le_of_ble_eq_true rfl) ?_
  show zK X WM (zrm (d + 1)) M_X11_free (zZ X WM zeI) 0 [some (.ref a0), none, none] [] σ (f_X11_free a0 σ)
  unfold f_X11_free
  refine z_ck (fun h0 => ?_)
  refine z_aload0 0 1 rfl rfl ?_
  refine z_cV0V 1 4 rfl rfl zl_X11_178 F_X11_good (zR_rm (by omega)) (c_X11_good X d a0 σ) ⟨by decide, rfl, rfl⟩ h0 rfl (Nat.le_of_ble_eq_true rfl) (fun r11 σ12 => ?_)
  refine z_aload0 2 5 rfl rfl ?_
  refine z_getI 3 8 14 rfl rfl zf_X11_191 rfl h0 ?_
  refine z_if_ne 4 11 17 rfl rfl (by decide) ?_ ?_
  · refine z_aload0 5 12 rfl rfl ?_
    refine z_iconst 6 13 rfl rfl ci_1 ?_
    refine z_cV1I 7 16 rfl rfl zl_X11_181 F_X11_no (zR_rm (by omega)) (c_X11_no X d a0 (1 : Int32) σ12) ⟨by decide, rfl, rfl⟩ h0 rfl (Nat.le_of_ble_eq_true rfl) (fun r13 σ14 => ?_)
    exact z_iret 8 rfl rfl
  · refine z_bipush 9 19 rfl rfl cb_m2 ?_
    refine z_istore1 10 20 rfl rfl rfl (fun v15 => ?_)
    refine z_iconst 11 21 rfl rfl ci_0 ?_
    refine z_istore2 12 22 rfl rfl rfl (fun v16 => ?_)
    exact t_X11_free_22 X d hd a0 h0  FU v15 v16 σ12
def f_X11_top_52 (a0 : Nat) (H21 : Int32 → Int32 → zS → Option (Int32 × zS)) (x1 : Int32) (x2 : Int32) (σ : zS) : Option (Int32 × zS) := zlt (x2 + (1 : Int32)) (fun v1 => H21 x1 v1 σ)
theorem t_X11_top_52 (X : zX) (d : Nat) (hd : 3 ≤ d + 1) (a0 : Nat) (h0 : WM.2 a0 = (11, 0)) (H21 : Int32 → Int32 → zS → Option (Int32 × zS)) (hH21 : ∀ (x1 : Int32) (x2 : Int32) (σ : zS), zK X WM (zrm (d + 1)) M_X11_top (zZ X WM zeI) 21 [some (.ref a0), some (.int x1), some (.int x2)] [] σ (H21 x1 x2 σ)) (x1 : Int32) (x2 : Int32) (σ : zS) : zK X WM (zrm (d + 1)) M_X11_top (zZ X WM zeI) 52 [some (.ref a0), some (.int x1), some (.int x2)] [] σ (f_X11_top_52 a0 H21 x1 x2 σ) := by
  unfold f_X11_top_52
  refine z_iinc2 30 55 rfl rfl ci_1 rfl (fun v1 => ?_)
  refine z_goto 31 21 rfl (by decide) ?_
  exact hH21 x1 v1 σ
def f_X11_top_21 (a0 : Nat) : Nat → Int32 → Int32 → zS → Option (Int32 × zS)
  | 0, _, _, _ => none
  | n + 1, x1, x2, σ => zck (zok 100 (WM.2 (σ.2 a0 15)) (1 : Int32)) (zbr ((σ.1 (σ.2 a0 15) (1 : Int32).toNatClampNeg) ≤ x2) (some (x1, σ)) (zbd (f_X11_outrankedBy a0 x2 σ) (fun r2 σ3 => zbd (f_X11_ones r2 σ3) (fun r4 σ5 => zbd (f_X11_outrankedBy a0 x1 σ5) (fun r6 σ7 => zbd (f_X11_ones r6 σ7) (fun r8 σ9 => zbr (r4 ≤ r8) (f_X11_top_52 a0 (f_X11_top_21 a0 n) x1 x2 σ9) (zlt x2 (fun v10 => f_X11_top_52 a0 (f_X11_top_21 a0 n) v10 x2 σ9))))))))
theorem t_X11_top_21 (X : zX) (d : Nat) (hd : 3 ≤ d + 1) (a0 : Nat) (h0 : WM.2 a0 = (11, 0)) : ∀ (n : Nat) (x1 : Int32) (x2 : Int32) (σ : zS), zK X WM (zrm (d + 1)) M_X11_top (zZ X WM zeI) 21 [some (.ref a0), some (.int x1), some (.int x2)] [] σ (f_X11_top_21 a0 n x1 x2 σ) := by
  intro n
  induction n with
  | zero => intro x1 x2 σ; exact z_none
  | succ n ih =>
    intro x1 x2 σ
    rw [f_X11_top_21]
    refine z_iload2 13 22 rfl rfl ?_
    refine z_aload0 14 23 rfl rfl ?_
    refine z_getR 15 26 15 rfl rfl zf_X11_20 rfl h0 ?_
    refine z_iconst 16 27 rfl rfl ci_1 ?_
    refine z_iald 17 28 rfl rfl ?_
    refine z_icmp_ge 18 31 58 rfl rfl (by decide) ?_ ?_
    · refine z_iload1 32 59 rfl rfl ?_
      exact z_iret 33 rfl rfl
    · refine z_aload0 19 32 rfl rfl ?_
      refine z_iload2 20 33 rfl rfl ?_
      refine z_cV1I 21 36 rfl rfl zl_X11_315 F_X11_outrankedBy (zR_rm (by omega)) (c_X11_outrankedBy X d (by omega) a0 x2 σ) ⟨by decide, rfl, rfl⟩ h0 rfl (Nat.le_of_ble_eq_true rfl) (fun r2 σ3 => ?_)
      refine z_cS1I 22 39 rfl rfl zl_X11_342 F_X11_ones (zR_rm (by omega)) (c_X11_ones X d r2 σ3) rfl (Nat.le_of_ble_eq_true rfl) (fun r4 σ5 => ?_)
      refine z_aload0 23 40 rfl rfl ?_
      refine z_iload1 24 41 rfl rfl ?_
      refine z_cV1I 25 44 rfl rfl zl_X11_315 F_X11_outrankedBy (zR_rm (by omega)) (c_X11_outrankedBy X d (by omega) a0 x1 σ5) ⟨by decide, rfl, rfl⟩ h0 rfl (Nat.le_of_ble_eq_true rfl) (fun r6 σ7 => ?_)
      refine z_cS1I 26 47 rfl rfl zl_X11_342 F_X11_ones (zR_rm (by omega)) (c_X11_ones X d r6 σ7) rfl (Nat.le_of_ble_eq_true rfl) (fun r8 σ9 => ?_)
      refine z_icmp_le 27 50 52 rfl rfl (by decide) ?_ ?_
      · exact t_X11_top_52 X d hd a0 h0 (f_X11_top_21 a0 n) ih x1 x2 σ9
      · refine z_iload2 28 51 rfl rfl ?_
        refine z_istore1 29 52 rfl rfl rfl (fun v10 => ?_)
        exact t_X11_top_52 X d hd a0 h0 (f_X11_top_21 a0 n) ih v10 x2 σ9
def f_X11_top (a0 : Nat) (σ : zS) : Option (Int32 × zS) := zck (WM.2 a0 = (11, 0)) (zbd (f_X11_good a0 σ) (fun r11 σ12 => zbr ((σ12.1 a0 14) = 0) (zbd (f_X11_no a0 (1 : Int32) σ12) (fun r13 σ14 => some (r13, σ14))) (zlt (0 : Int32) (fun v15 => zlt (1 : Int32) (fun v16 => f_X11_top_21 a0 FU v15 v16 σ12)))))
theorem c_X11_top (X : zX) (d : Nat) (hd : 3 ≤ d) (a0 : Nat) (σ : zS) : ∀ (r : Int32) (σ' : zS), f_X11_top a0 σ = some (r, σ') → zCN X WM d M_X11_top [.ref a0] σ (zeI r, σ') := by
  obtain ⟨d, rfl⟩ : ∃ e, d = e + 1 := ⟨d - 1, by omega⟩
  refine z_entry [.ref a0] (by decide +kernel) T_X11_top (Nat.le_of_ble_eq_true rfl) ?_
  show zK X WM (zrm (d + 1)) M_X11_top (zZ X WM zeI) 0 [some (.ref a0), none, none] [] σ (f_X11_top a0 σ)
  unfold f_X11_top
  refine z_ck (fun h0 => ?_)
  refine z_aload0 0 1 rfl rfl ?_
  refine z_cV0V 1 4 rfl rfl zl_X11_178 F_X11_good (zR_rm (by omega)) (c_X11_good X d a0 σ) ⟨by decide, rfl, rfl⟩ h0 rfl (Nat.le_of_ble_eq_true rfl) (fun r11 σ12 => ?_)
  refine z_aload0 2 5 rfl rfl ?_
  refine z_getI 3 8 14 rfl rfl zf_X11_191 rfl h0 ?_
  refine z_if_ne 4 11 17 rfl rfl (by decide) ?_ ?_
  · refine z_aload0 5 12 rfl rfl ?_
    refine z_iconst 6 13 rfl rfl ci_1 ?_
    refine z_cV1I 7 16 rfl rfl zl_X11_181 F_X11_no (zR_rm (by omega)) (c_X11_no X d a0 (1 : Int32) σ12) ⟨by decide, rfl, rfl⟩ h0 rfl (Nat.le_of_ble_eq_true rfl) (fun r13 σ14 => ?_)
    exact z_iret 8 rfl rfl
  · refine z_iconst 9 18 rfl rfl ci_0 ?_
    refine z_istore1 10 19 rfl rfl rfl (fun v15 => ?_)
    refine z_iconst 11 20 rfl rfl ci_1 ?_
    refine z_istore2 12 21 rfl rfl rfl (fun v16 => ?_)
    exact t_X11_top_21 X d hd a0 h0  FU v15 v16 σ12
def f_X11_paysOf_41 (a0 : Nat) (H4 : Int32 → Int32 → Int32 → zS → Option (Int32 × zS)) (x1 : Int32) (x3 : Int32) (s0 : Int32) (s1 : Int32) (σ : zS) : Option (Int32 × zS) := zlt (s0 + s1) (fun v1 => zlt (x3 + (1 : Int32)) (fun v2 => H4 x1 v1 v2 σ))
theorem t_X11_paysOf_41 (X : zX) (d : Nat) (hd : 1 ≤ d + 1) (a0 : Nat) (h0 : WM.2 a0 = (11, 0)) (H4 : Int32 → Int32 → Int32 → zS → Option (Int32 × zS)) (hH4 : ∀ (x1 : Int32) (x2 : Int32) (x3 : Int32) (σ : zS), zK X WM (zrm (d + 1)) M_X11_paysOf (zZ X WM zeI) 4 [some (.ref a0), some (.int x1), some (.int x2), some (.int x3)] [] σ (H4 x1 x2 x3 σ)) (x1 : Int32) (x3 : Int32) (s0 : Int32) (s1 : Int32) (σ : zS) : zK X WM (zrm (d + 1)) M_X11_paysOf (zZ X WM zeI) 41 [some (.ref a0), some (.int x1), none, some (.int x3)] [.int s1, .int s0] σ (f_X11_paysOf_41 a0 H4 x1 x3 s0 s1 σ) := by
  unfold f_X11_paysOf_41
  refine z_iadd 27 42 rfl rfl ?_
  refine z_istore2 28 43 rfl rfl rfl (fun v1 => ?_)
  refine z_iinc3 29 46 rfl rfl ci_1 rfl (fun v2 => ?_)
  refine z_goto 30 4 rfl (by decide) ?_
  exact hH4 x1 v1 v2 σ
def f_X11_paysOf_4 (a0 : Nat) : Nat → Int32 → Int32 → Int32 → zS → Option (Int32 × zS)
  | 0, _, _, _, _ => none
  | n + 1, x1, x2, x3, σ => zck (zok 100 (WM.2 (σ.2 a0 15)) (8 : Int32)) (zbr ((σ.1 (σ.2 a0 15) (8 : Int32).toNatClampNeg) ≤ x3) (some (x2, σ)) (zbd (f_X11_hasBit x1 x3 σ) (fun r3 σ4 => zbr (r3 = 0) (f_X11_paysOf_41 a0 (f_X11_paysOf_4 a0 n) x1 x3 x2 (0 : Int32) σ4) (zck (zok 100 (WM.2 (σ4.2 a0 15)) (((45 : Int32) + ((4 : Int32) * x3)) + (3 : Int32))) (f_X11_paysOf_41 a0 (f_X11_paysOf_4 a0 n) x1 x3 x2 (σ4.1 (σ4.2 a0 15) (((45 : Int32) + ((4 : Int32) * x3)) + (3 : Int32)).toNatClampNeg) σ4)))))
theorem t_X11_paysOf_4 (X : zX) (d : Nat) (hd : 1 ≤ d + 1) (a0 : Nat) (h0 : WM.2 a0 = (11, 0)) : ∀ (n : Nat) (x1 : Int32) (x2 : Int32) (x3 : Int32) (σ : zS), zK X WM (zrm (d + 1)) M_X11_paysOf (zZ X WM zeI) 4 [some (.ref a0), some (.int x1), some (.int x2), some (.int x3)] [] σ (f_X11_paysOf_4 a0 n x1 x2 x3 σ) := by
  intro n
  induction n with
  | zero => intro x1 x2 x3 σ; exact z_none
  | succ n ih =>
    intro x1 x2 x3 σ
    rw [f_X11_paysOf_4]
    refine z_iload3 4 5 rfl rfl ?_
    refine z_aload0 5 6 rfl rfl ?_
    refine z_getR 6 9 15 rfl rfl zf_X11_20 rfl h0 ?_
    refine z_bipush 7 11 rfl rfl cb_8 ?_
    refine z_iald 8 12 rfl rfl ?_
    refine z_icmp_ge 9 15 49 rfl rfl (by decide) ?_ ?_
    · refine z_iload2 31 50 rfl rfl ?_
      exact z_iret 32 rfl rfl
    · refine z_iload2 10 16 rfl rfl ?_
      refine z_iload1 11 17 rfl rfl ?_
      refine z_iload3 12 18 rfl rfl ?_
      refine z_cS2I 13 21 rfl rfl zl_X11_277 F_X11_hasBit (zR_rm (by omega)) (c_X11_hasBit X d x1 x3 σ) rfl (Nat.le_of_ble_eq_true rfl) (fun r3 σ4 => ?_)
      refine z_if_eq 14 24 40 rfl rfl (by decide) ?_ ?_
      · refine z_iconst 26 41 rfl rfl ci_0 ?_
        exact z_wk (zle_e (zle_e (zle_n (zle_e zle_0)))) (t_X11_paysOf_41 X d hd a0 h0 (f_X11_paysOf_4 a0 n) ih x1 x3 x2 (0 : Int32) σ4)
      · refine z_aload0 15 25 rfl rfl ?_
        refine z_getR 16 28 15 rfl rfl zf_X11_20 rfl h0 ?_
        refine z_bipush 17 30 rfl rfl cb_45 ?_
        refine z_iconst 18 31 rfl rfl ci_4 ?_
        refine z_iload3 19 32 rfl rfl ?_
        refine z_imul 20 33 rfl rfl ?_
        refine z_iadd 21 34 rfl rfl ?_
        refine z_iconst 22 35 rfl rfl ci_3 ?_
        refine z_iadd 23 36 rfl rfl ?_
        refine z_iald 24 37 rfl rfl ?_
        refine z_goto 25 41 rfl (by decide) ?_
        exact z_wk (zle_e (zle_e (zle_n (zle_e zle_0)))) (t_X11_paysOf_41 X d hd a0 h0 (f_X11_paysOf_4 a0 n) ih x1 x3 x2 (σ4.1 (σ4.2 a0 15) (((45 : Int32) + ((4 : Int32) * x3)) + (3 : Int32)).toNatClampNeg) σ4)
def f_X11_paysOf (a0 : Nat) (x1 : Int32) (σ : zS) : Option (Int32 × zS) := zck (WM.2 a0 = (11, 0)) (zlt (0 : Int32) (fun v5 => zlt (0 : Int32) (fun v6 => f_X11_paysOf_4 a0 FU x1 v5 v6 σ)))
theorem c_X11_paysOf (X : zX) (d : Nat) (hd : 1 ≤ d) (a0 : Nat) (x1 : Int32) (σ : zS) : ∀ (r : Int32) (σ' : zS), f_X11_paysOf a0 x1 σ = some (r, σ') → zCN X WM d M_X11_paysOf [.ref a0, .int x1] σ (zeI r, σ') := by
  obtain ⟨d, rfl⟩ : ∃ e, d = e + 1 := ⟨d - 1, by omega⟩
  refine z_entry [.ref a0, .int x1] (by decide +kernel) T_X11_paysOf (Nat.le_of_ble_eq_true rfl) ?_
  show zK X WM (zrm (d + 1)) M_X11_paysOf (zZ X WM zeI) 0 [some (.ref a0), some (.int x1), none, none] [] σ (f_X11_paysOf a0 x1 σ)
  unfold f_X11_paysOf
  refine z_ck (fun h0 => ?_)
  refine z_iconst 0 1 rfl rfl ci_0 ?_
  refine z_istore2 1 2 rfl rfl rfl (fun v5 => ?_)
  refine z_iconst 2 3 rfl rfl ci_0 ?_
  refine z_istore3 3 4 rfl rfl rfl (fun v6 => ?_)
  exact t_X11_paysOf_4 X d hd a0 h0  FU x1 v5 v6 σ
def f_X11_canTake_145 (a0 : Nat) (H2 : Int32 → Int32 → zS → Option (Int32 × zS)) (H21 : Int32 → Int32 → Int32 → Int32 → Int32 → zS → Option (Int32 × zS)) (x1 : Int32) (x2 : Int32) (x3 : Int32) (x4 : Int32) (x5 : Int32) (σ : zS) : Option (Int32 × zS) := zlt (x5 + (1 : Int32)) (fun v1 => H21 x1 x2 x3 x4 v1 σ)
theorem t_X11_canTake_145 (X : zX) (d : Nat) (hd : 1 ≤ d + 1) (a0 : Nat) (h0 : WM.2 a0 = (11, 0)) (H2 : Int32 → Int32 → zS → Option (Int32 × zS)) (hH2 : ∀ (x1 : Int32) (x2 : Int32) (σ : zS), zK X WM (zrm (d + 1)) M_X11_canTake (zZ X WM zeI) 2 [some (.ref a0), some (.int x1), some (.int x2), none, none, none] [] σ (H2 x1 x2 σ)) (H21 : Int32 → Int32 → Int32 → Int32 → Int32 → zS → Option (Int32 × zS)) (hH21 : ∀ (x1 : Int32) (x2 : Int32) (x3 : Int32) (x4 : Int32) (x5 : Int32) (σ : zS), zK X WM (zrm (d + 1)) M_X11_canTake (zZ X WM zeI) 21 [some (.ref a0), some (.int x1), some (.int x2), some (.int x3), some (.int x4), some (.int x5)] [] σ (H21 x1 x2 x3 x4 x5 σ)) (x1 : Int32) (x2 : Int32) (x3 : Int32) (x4 : Int32) (x5 : Int32) (σ : zS) : zK X WM (zrm (d + 1)) M_X11_canTake (zZ X WM zeI) 145 [some (.ref a0), some (.int x1), some (.int x2), some (.int x3), some (.int x4), some (.int x5)] [] σ (f_X11_canTake_145 a0 H2 H21 x1 x2 x3 x4 x5 σ) := by
  unfold f_X11_canTake_145
  refine z_iinc5 93 148 rfl rfl ci_1 rfl (fun v1 => ?_)
  refine z_goto 94 21 rfl (by decide) ?_
  exact hH21 x1 x2 x3 x4 v1 σ
def f_X11_canTake_142 (a0 : Nat) (H2 : Int32 → Int32 → zS → Option (Int32 × zS)) (H21 : Int32 → Int32 → Int32 → Int32 → Int32 → zS → Option (Int32 × zS)) (x1 : Int32) (x2 : Int32) (x3 : Int32) (x5 : Int32) (s0 : Int32) (s1 : Int32) (σ : zS) : Option (Int32 × zS) := zlt (s0 + s1) (fun v2 => f_X11_canTake_145 a0 H2 H21 x1 x2 x3 v2 x5 σ)
theorem t_X11_canTake_142 (X : zX) (d : Nat) (hd : 1 ≤ d + 1) (a0 : Nat) (h0 : WM.2 a0 = (11, 0)) (H2 : Int32 → Int32 → zS → Option (Int32 × zS)) (hH2 : ∀ (x1 : Int32) (x2 : Int32) (σ : zS), zK X WM (zrm (d + 1)) M_X11_canTake (zZ X WM zeI) 2 [some (.ref a0), some (.int x1), some (.int x2), none, none, none] [] σ (H2 x1 x2 σ)) (H21 : Int32 → Int32 → Int32 → Int32 → Int32 → zS → Option (Int32 × zS)) (hH21 : ∀ (x1 : Int32) (x2 : Int32) (x3 : Int32) (x4 : Int32) (x5 : Int32) (σ : zS), zK X WM (zrm (d + 1)) M_X11_canTake (zZ X WM zeI) 21 [some (.ref a0), some (.int x1), some (.int x2), some (.int x3), some (.int x4), some (.int x5)] [] σ (H21 x1 x2 x3 x4 x5 σ)) (x1 : Int32) (x2 : Int32) (x3 : Int32) (x5 : Int32) (s0 : Int32) (s1 : Int32) (σ : zS) : zK X WM (zrm (d + 1)) M_X11_canTake (zZ X WM zeI) 142 [some (.ref a0), some (.int x1), some (.int x2), some (.int x3), none, some (.int x5)] [.int s1, .int s0] σ (f_X11_canTake_142 a0 H2 H21 x1 x2 x3 x5 s0 s1 σ) := by
  unfold f_X11_canTake_142
  refine z_iadd 91 143 rfl rfl ?_
  refine z_istore4 92 145 rfl rfl rfl (fun v2 => ?_)
  exact t_X11_canTake_145 X d hd a0 h0 H2 hH2 H21 hH21 x1 x2 x3 v2 x5 σ
def f_X11_canTake_94 (a0 : Nat) (H2 : Int32 → Int32 → zS → Option (Int32 × zS)) (H21 : Int32 → Int32 → Int32 → Int32 → Int32 → zS → Option (Int32 × zS)) (x1 : Int32) (x2 : Int32) (x4 : Int32) (x5 : Int32) (s0 : Int32) (s1 : Int32) (σ : zS) : Option (Int32 × zS) := zlt (s0 + s1) (fun v3 => zck (zok 100 (WM.2 (σ.2 a0 15)) ((45 : Int32) + ((4 : Int32) * x5))) (zck (zok 100 (WM.2 (σ.2 a0 15)) ((45 : Int32) + ((4 : Int32) * x2))) (zbr ((σ.1 (σ.2 a0 15) ((45 : Int32) + ((4 : Int32) * x5)).toNatClampNeg) = (σ.1 (σ.2 a0 15) ((45 : Int32) + ((4 : Int32) * x2)).toNatClampNeg)) (zck (zok 100 (WM.2 (σ.2 a0 15)) (((45 : Int32) + ((4 : Int32) * x5)) + (3 : Int32))) (f_X11_canTake_142 a0 H2 H21 x1 x2 v3 x5 x4 (σ.1 (σ.2 a0 15) (((45 : Int32) + ((4 : Int32) * x5)) + (3 : Int32)).toNatClampNeg) σ)) (f_X11_canTake_142 a0 H2 H21 x1 x2 v3 x5 x4 (0 : Int32) σ))))
theorem t_X11_canTake_94 (X : zX) (d : Nat) (hd : 1 ≤ d + 1) (a0 : Nat) (h0 : WM.2 a0 = (11, 0)) (H2 : Int32 → Int32 → zS → Option (Int32 × zS)) (hH2 : ∀ (x1 : Int32) (x2 : Int32) (σ : zS), zK X WM (zrm (d + 1)) M_X11_canTake (zZ X WM zeI) 2 [some (.ref a0), some (.int x1), some (.int x2), none, none, none] [] σ (H2 x1 x2 σ)) (H21 : Int32 → Int32 → Int32 → Int32 → Int32 → zS → Option (Int32 × zS)) (hH21 : ∀ (x1 : Int32) (x2 : Int32) (x3 : Int32) (x4 : Int32) (x5 : Int32) (σ : zS), zK X WM (zrm (d + 1)) M_X11_canTake (zZ X WM zeI) 21 [some (.ref a0), some (.int x1), some (.int x2), some (.int x3), some (.int x4), some (.int x5)] [] σ (H21 x1 x2 x3 x4 x5 σ)) (x1 : Int32) (x2 : Int32) (x4 : Int32) (x5 : Int32) (s0 : Int32) (s1 : Int32) (σ : zS) : zK X WM (zrm (d + 1)) M_X11_canTake (zZ X WM zeI) 94 [some (.ref a0), some (.int x1), some (.int x2), none, some (.int x4), some (.int x5)] [.int s1, .int s0] σ (f_X11_canTake_94 a0 H2 H21 x1 x2 x4 x5 s0 s1 σ) := by
  unfold f_X11_canTake_94
  refine z_iadd 59 95 rfl rfl ?_
  refine z_istore3 60 96 rfl rfl rfl (fun v3 => ?_)
  refine z_iload4 61 98 rfl rfl ?_
  refine z_aload0 62 99 rfl rfl ?_
  refine z_getR 63 102 15 rfl rfl zf_X11_20 rfl h0 ?_
  refine z_bipush 64 104 rfl rfl cb_45 ?_
  refine z_iconst 65 105 rfl rfl ci_4 ?_
  refine z_iload5 66 107 rfl rfl ?_
  refine z_imul 67 108 rfl rfl ?_
  refine z_iadd 68 109 rfl rfl ?_
  refine z_iald 69 110 rfl rfl ?_
  refine z_aload0 70 111 rfl rfl ?_
  refine z_getR 71 114 15 rfl rfl zf_X11_20 rfl h0 ?_
  refine z_bipush 72 116 rfl rfl cb_45 ?_
  refine z_iconst 73 117 rfl rfl ci_4 ?_
  refine z_iload2 74 118 rfl rfl ?_
  refine z_imul 75 119 rfl rfl ?_
  refine z_iadd 76 120 rfl rfl ?_
  refine z_iald 77 121 rfl rfl ?_
  refine z_icmp_ne 78 124 141 rfl rfl (by decide) ?_ ?_
  · refine z_aload0 79 125 rfl rfl ?_
    refine z_getR 80 128 15 rfl rfl zf_X11_20 rfl h0 ?_
    refine z_bipush 81 130 rfl rfl cb_45 ?_
    refine z_iconst 82 131 rfl rfl ci_4 ?_
    refine z_iload5 83 133 rfl rfl ?_
    refine z_imul 84 134 rfl rfl ?_
    refine z_iadd 85 135 rfl rfl ?_
    refine z_iconst 86 136 rfl rfl ci_3 ?_
    refine z_iadd 87 137 rfl rfl ?_
    refine z_iald 88 138 rfl rfl ?_
    refine z_goto 89 142 rfl (by decide) ?_
    exact z_wk (zle_e (zle_e (zle_e (zle_e (zle_n (zle_e zle_0)))))) (t_X11_canTake_142 X d hd a0 h0 H2 hH2 H21 hH21 x1 x2 v3 x5 x4 (σ.1 (σ.2 a0 15) (((45 : Int32) + ((4 : Int32) * x5)) + (3 : Int32)).toNatClampNeg) σ)
  · refine z_iconst 90 142 rfl rfl ci_0 ?_
    exact z_wk (zle_e (zle_e (zle_e (zle_e (zle_n (zle_e zle_0)))))) (t_X11_canTake_142 X d hd a0 h0 H2 hH2 H21 hH21 x1 x2 v3 x5 x4 (0 : Int32) σ)
def f_X11_canTake_21 (a0 : Nat) (H2 : Int32 → Int32 → zS → Option (Int32 × zS)) : Nat → Int32 → Int32 → Int32 → Int32 → Int32 → zS → Option (Int32 × zS)
  | 0, _, _, _, _, _, _ => none
  | n + 1, x1, x2, x3, x4, x5, σ => zck (zok 100 (WM.2 (σ.2 a0 15)) (8 : Int32)) (zbr ((σ.1 (σ.2 a0 15) (8 : Int32).toNatClampNeg) ≤ x5) (zck (zok 100 (WM.2 (σ.2 a0 15)) (((45 : Int32) + ((4 : Int32) * x2)) + (1 : Int32))) (zbd (f_X11_roomOn a0 (σ.2 a0 15) (σ.2 a0 19) (σ.1 (σ.2 a0 15) (((45 : Int32) + ((4 : Int32) * x2)) + (1 : Int32)).toNatClampNeg) σ) (fun r4 σ5 => zbr (r4 < x3) (zck (zb (0 : Int32)) (some ((0 : Int32), σ5))) (zck (zok 100 (WM.2 (σ5.2 a0 15)) ((45 : Int32) + ((4 : Int32) * x2))) (zck (zok 100 (WM.2 (σ5.2 a0 15)) ((34 : Int32) + (σ5.1 (σ5.2 a0 15) ((45 : Int32) + ((4 : Int32) * x2)).toNatClampNeg))) (zbr (x4 ≤ (σ5.1 (σ5.2 a0 15) ((34 : Int32) + (σ5.1 (σ5.2 a0 15) ((45 : Int32) + ((4 : Int32) * x2)).toNatClampNeg)).toNatClampNeg)) (zlt (x2 + (1 : Int32)) (fun v6 => H2 x1 v6 σ5)) (zck (zb (0 : Int32)) (some ((0 : Int32), σ5))))))))) (zbd (f_X11_hasBit x1 x5 σ) (fun r7 σ8 => zbr (r7 = 0) (f_X11_canTake_145 a0 H2 (f_X11_canTake_21 a0 H2 n) x1 x2 x3 x4 x5 σ8) (zck (zok 100 (WM.2 (σ8.2 a0 15)) (((45 : Int32) + ((4 : Int32) * x5)) + (1 : Int32))) (zck (zok 100 (WM.2 (σ8.2 a0 15)) (((45 : Int32) + ((4 : Int32) * x2)) + (1 : Int32))) (zbr ((σ8.1 (σ8.2 a0 15) (((45 : Int32) + ((4 : Int32) * x5)) + (1 : Int32)).toNatClampNeg) = (σ8.1 (σ8.2 a0 15) (((45 : Int32) + ((4 : Int32) * x2)) + (1 : Int32)).toNatClampNeg)) (zck (zok 100 (WM.2 (σ8.2 a0 15)) (((45 : Int32) + ((4 : Int32) * x5)) + (2 : Int32))) (f_X11_canTake_94 a0 H2 (f_X11_canTake_21 a0 H2 n) x1 x2 x4 x5 x3 (σ8.1 (σ8.2 a0 15) (((45 : Int32) + ((4 : Int32) * x5)) + (2 : Int32)).toNatClampNeg) σ8)) (f_X11_canTake_94 a0 H2 (f_X11_canTake_21 a0 H2 n) x1 x2 x4 x5 x3 (0 : Int32) σ8)))))))
theorem t_X11_canTake_21 (X : zX) (d : Nat) (hd : 1 ≤ d + 1) (a0 : Nat) (h0 : WM.2 a0 = (11, 0)) (H2 : Int32 → Int32 → zS → Option (Int32 × zS)) (hH2 : ∀ (x1 : Int32) (x2 : Int32) (σ : zS), zK X WM (zrm (d + 1)) M_X11_canTake (zZ X WM zeI) 2 [some (.ref a0), some (.int x1), some (.int x2), none, none, none] [] σ (H2 x1 x2 σ)) : ∀ (n : Nat) (x1 : Int32) (x2 : Int32) (x3 : Int32) (x4 : Int32) (x5 : Int32) (σ : zS), zK X WM (zrm (d + 1)) M_X11_canTake (zZ X WM zeI) 21 [some (.ref a0), some (.int x1), some (.int x2), some (.int x3), some (.int x4), some (.int x5)] [] σ (f_X11_canTake_21 a0 H2 n x1 x2 x3 x4 x5 σ) := by
  intro n
  induction n with
  | zero => intro x1 x2 x3 x4 x5 σ; exact z_none
  | succ n ih =>
    intro x1 x2 x3 x4 x5 σ
    rw [f_X11_canTake_21]
    refine z_iload5 14 23 rfl rfl ?_
    refine z_aload0 15 24 rfl rfl ?_
    refine z_getR 16 27 15 rfl rfl zf_X11_20 rfl h0 ?_
    refine z_bipush 17 29 rfl rfl cb_8 ?_
    refine z_iald 18 30 rfl rfl ?_
    refine z_icmp_ge 19 33 151 rfl rfl (by decide) ?_ ?_
    · refine z_iload3 95 152 rfl rfl ?_
      refine z_aload0 96 153 rfl rfl ?_
      refine z_aload0 97 154 rfl rfl ?_
      refine z_getR 98 157 15 rfl rfl zf_X11_20 rfl h0 ?_
      refine z_aload0 99 158 rfl rfl ?_
      refine z_getR 100 161 19 rfl rfl zf_X11_32 rfl h0 ?_
      refine z_aload0 101 162 rfl rfl ?_
      refine z_getR 102 165 15 rfl rfl zf_X11_20 rfl h0 ?_
      refine z_bipush 103 167 rfl rfl cb_45 ?_
      refine z_iconst 104 168 rfl rfl ci_4 ?_
      refine z_iload2 105 169 rfl rfl ?_
      refine z_imul 106 170 rfl rfl ?_
      refine z_iadd 107 171 rfl rfl ?_
      refine z_iconst 108 172 rfl rfl ci_1 ?_
      refine z_iadd 109 173 rfl rfl ?_
      refine z_iald 110 174 rfl rfl ?_
      refine z_cV3I 111 177 rfl rfl zl_X11_262 F_X11_roomOn (zR_rm (by omega)) (c_X11_roomOn X d a0 (σ.2 a0 15) (σ.2 a0 19) (σ.1 (σ.2 a0 15) (((45 : Int32) + ((4 : Int32) * x2)) + (1 : Int32)).toNatClampNeg) σ) ⟨by decide, rfl, rfl⟩ h0 rfl (Nat.le_of_ble_eq_true rfl) (fun r4 σ5 => ?_)
      refine z_icmp_gt 112 180 204 rfl rfl (by decide) ?_ ?_
      · refine z_iconst 128 205 rfl rfl ci_0 ?_
        exact z_zret 129 rfl rfl
      · refine z_iload4 113 182 rfl rfl ?_
        refine z_aload0 114 183 rfl rfl ?_
        refine z_getR 115 186 15 rfl rfl zf_X11_20 rfl h0 ?_
        refine z_bipush 116 188 rfl rfl cb_34 ?_
        refine z_aload0 117 189 rfl rfl ?_
        refine z_getR 118 192 15 rfl rfl zf_X11_20 rfl h0 ?_
        refine z_bipush 119 194 rfl rfl cb_45 ?_
        refine z_iconst 120 195 rfl rfl ci_4 ?_
        refine z_iload2 121 196 rfl rfl ?_
        refine z_imul 122 197 rfl rfl ?_
        refine z_iadd 123 198 rfl rfl ?_
        refine z_iald 124 199 rfl rfl ?_
        refine z_iadd 125 200 rfl rfl ?_
        refine z_iald 126 201 rfl rfl ?_
        refine z_icmp_le 127 204 206 rfl rfl (by decide) ?_ ?_
        · refine z_iinc2 130 209 rfl rfl ci_1 rfl (fun v6 => ?_)
          refine z_goto 131 2 rfl (by decide) ?_
          exact z_wk (zle_e (zle_e (zle_e (zle_n (zle_n (zle_n zle_0)))))) (hH2 x1 v6 σ5)
        · refine z_iconst 128 205 rfl rfl ci_0 ?_
          exact z_zret 129 rfl rfl
    · refine z_iload1 20 34 rfl rfl ?_
      refine z_iload5 21 36 rfl rfl ?_
      refine z_cS2I 22 39 rfl rfl zl_X11_277 F_X11_hasBit (zR_rm (by omega)) (c_X11_hasBit X d x1 x5 σ) rfl (Nat.le_of_ble_eq_true rfl) (fun r7 σ8 => ?_)
      refine z_if_ne 23 42 45 rfl rfl (by decide) ?_ ?_
      · refine z_goto 24 145 rfl (by decide) ?_
        exact t_X11_canTake_145 X d hd a0 h0 H2 hH2 (f_X11_canTake_21 a0 H2 n) ih x1 x2 x3 x4 x5 σ8
      · refine z_iload3 25 46 rfl rfl ?_
        refine z_aload0 26 47 rfl rfl ?_
        refine z_getR 27 50 15 rfl rfl zf_X11_20 rfl h0 ?_
        refine z_bipush 28 52 rfl rfl cb_45 ?_
        refine z_iconst 29 53 rfl rfl ci_4 ?_
        refine z_iload5 30 55 rfl rfl ?_
        refine z_imul 31 56 rfl rfl ?_
        refine z_iadd 32 57 rfl rfl ?_
        refine z_iconst 33 58 rfl rfl ci_1 ?_
        refine z_iadd 34 59 rfl rfl ?_
        refine z_iald 35 60 rfl rfl ?_
        refine z_aload0 36 61 rfl rfl ?_
        refine z_getR 37 64 15 rfl rfl zf_X11_20 rfl h0 ?_
        refine z_bipush 38 66 rfl rfl cb_45 ?_
        refine z_iconst 39 67 rfl rfl ci_4 ?_
        refine z_iload2 40 68 rfl rfl ?_
        refine z_imul 41 69 rfl rfl ?_
        refine z_iadd 42 70 rfl rfl ?_
        refine z_iconst 43 71 rfl rfl ci_1 ?_
        refine z_iadd 44 72 rfl rfl ?_
        refine z_iald 45 73 rfl rfl ?_
        refine z_icmp_ne 46 76 93 rfl rfl (by decide) ?_ ?_
        · refine z_aload0 47 77 rfl rfl ?_
          refine z_getR 48 80 15 rfl rfl zf_X11_20 rfl h0 ?_
          refine z_bipush 49 82 rfl rfl cb_45 ?_
          refine z_iconst 50 83 rfl rfl ci_4 ?_
          refine z_iload5 51 85 rfl rfl ?_
          refine z_imul 52 86 rfl rfl ?_
          refine z_iadd 53 87 rfl rfl ?_
          refine z_iconst 54 88 rfl rfl ci_2 ?_
          refine z_iadd 55 89 rfl rfl ?_
          refine z_iald 56 90 rfl rfl ?_
          refine z_goto 57 94 rfl (by decide) ?_
          exact z_wk (zle_e (zle_e (zle_e (zle_n (zle_e (zle_e zle_0)))))) (t_X11_canTake_94 X d hd a0 h0 H2 hH2 (f_X11_canTake_21 a0 H2 n) ih x1 x2 x4 x5 x3 (σ8.1 (σ8.2 a0 15) (((45 : Int32) + ((4 : Int32) * x5)) + (2 : Int32)).toNatClampNeg) σ8)
        · refine z_iconst 58 94 rfl rfl ci_0 ?_
          exact z_wk (zle_e (zle_e (zle_e (zle_n (zle_e (zle_e zle_0)))))) (t_X11_canTake_94 X d hd a0 h0 H2 hH2 (f_X11_canTake_21 a0 H2 n) ih x1 x2 x4 x5 x3 (0 : Int32) σ8)
def f_X11_canTake_2 (a0 : Nat) : Nat → Int32 → Int32 → zS → Option (Int32 × zS)
  | 0, _, _, _ => none
  | n + 1, x1, x2, σ => zck (zok 100 (WM.2 (σ.2 a0 15)) (8 : Int32)) (zbr ((σ.1 (σ.2 a0 15) (8 : Int32).toNatClampNeg) ≤ x2) (zck (zb (1 : Int32)) (some ((1 : Int32), σ))) (zlt (0 : Int32) (fun v9 => zlt (0 : Int32) (fun v10 => zlt (0 : Int32) (fun v11 => f_X11_canTake_21 a0 (f_X11_canTake_2 a0 n) FU x1 x2 v9 v10 v11 σ)))))
theorem t_X11_canTake_2 (X : zX) (d : Nat) (hd : 1 ≤ d + 1) (a0 : Nat) (h0 : WM.2 a0 = (11, 0)) : ∀ (n : Nat) (x1 : Int32) (x2 : Int32) (σ : zS), zK X WM (zrm (d + 1)) M_X11_canTake (zZ X WM zeI) 2 [some (.ref a0), some (.int x1), some (.int x2), none, none, none] [] σ (f_X11_canTake_2 a0 n x1 x2 σ) := by
  intro n
  induction n with
  | zero => intro x1 x2 σ; exact z_none
  | succ n ih =>
    intro x1 x2 σ
    rw [f_X11_canTake_2]
    refine z_iload2 2 3 rfl rfl ?_
    refine z_aload0 3 4 rfl rfl ?_
    refine z_getR 4 7 15 rfl rfl zf_X11_20 rfl h0 ?_
    refine z_bipush 5 9 rfl rfl cb_8 ?_
    refine z_iald 6 10 rfl rfl ?_
    refine z_icmp_ge 7 13 212 rfl rfl (by decide) ?_ ?_
    · refine z_iconst 132 213 rfl rfl ci_1 ?_
      exact z_zret 133 rfl rfl
    · refine z_iconst 8 14 rfl rfl ci_0 ?_
      refine z_istore3 9 15 rfl rfl rfl (fun v9 => ?_)
      refine z_iconst 10 16 rfl rfl ci_0 ?_
      refine z_istore4 11 18 rfl rfl rfl (fun v10 => ?_)
      refine z_iconst 12 19 rfl rfl ci_0 ?_
      refine z_istore5 13 21 rfl rfl rfl (fun v11 => ?_)
      exact t_X11_canTake_21 X d hd a0 h0 (f_X11_canTake_2 a0 n) ih FU x1 x2 v9 v10 v11 σ
def f_X11_canTake (a0 : Nat) (x1 : Int32) (σ : zS) : Option (Int32 × zS) := zck (WM.2 a0 = (11, 0)) (zlt (0 : Int32) (fun v12 => f_X11_canTake_2 a0 FU x1 v12 σ))
theorem c_X11_canTake (X : zX) (d : Nat) (hd : 1 ≤ d) (a0 : Nat) (x1 : Int32) (σ : zS) : ∀ (r : Int32) (σ' : zS), f_X11_canTake a0 x1 σ = some (r, σ') → zCN X WM d M_X11_canTake [.ref a0, .int x1] σ (zeI r, σ') := by
  obtain ⟨d, rfl⟩ : ∃ e, d = e + 1 := ⟨d - 1, by omega⟩
  refine z_entry [.ref a0, .int x1] (by decide +kernel) T_X11_canTake (Nat.le_of_ble_eq_true rfl) ?_
  show zK X WM (zrm (d + 1)) M_X11_canTake (zZ X WM zeI) 0 [some (.ref a0), some (.int x1), none, none, none, none] [] σ (f_X11_canTake a0 x1 σ)
  unfold f_X11_canTake
  refine z_ck (fun h0 => ?_)
  refine z_iconst 0 1 rfl rfl ci_0 ?_
  refine z_istore2 1 2 rfl rfl rfl (fun v12 => ?_)
  exact t_X11_canTake_2 X d hd a0 h0  FU x1 v12 σ
def f_X11_takenOf_46 (a0 : Nat) (H4 : Int32 → Int32 → Int32 → zS → Option (Int32 × zS)) (x1 : Int32) (x2 : Int32) (x3 : Int32) (σ : zS) : Option (Int32 × zS) := zlt (x3 + (1 : Int32)) (fun v1 => H4 x1 x2 v1 σ)
theorem t_X11_takenOf_46 (X : zX) (d : Nat) (hd : 2 ≤ d + 1) (a0 : Nat) (h0 : WM.2 a0 = (11, 0)) (H4 : Int32 → Int32 → Int32 → zS → Option (Int32 × zS)) (hH4 : ∀ (x1 : Int32) (x2 : Int32) (x3 : Int32) (σ : zS), zK X WM (zrm (d + 1)) M_X11_takenOf (zZ X WM zeI) 4 [some (.ref a0), some (.int x1), some (.int x2), some (.int x3)] [] σ (H4 x1 x2 x3 σ)) (x1 : Int32) (x2 : Int32) (x3 : Int32) (σ : zS) : zK X WM (zrm (d + 1)) M_X11_takenOf (zZ X WM zeI) 46 [some (.ref a0), some (.int x1), some (.int x2), some (.int x3)] [] σ (f_X11_takenOf_46 a0 H4 x1 x2 x3 σ) := by
  unfold f_X11_takenOf_46
  refine z_iinc3 29 49 rfl rfl ci_1 rfl (fun v1 => ?_)
  refine z_goto 30 4 rfl (by decide) ?_
  exact hH4 x1 x2 v1 σ
def f_X11_takenOf_4 (a0 : Nat) : Nat → Int32 → Int32 → Int32 → zS → Option (Int32 × zS)
  | 0, _, _, _, _ => none
  | n + 1, x1, x2, x3, σ => zck (zok 100 (WM.2 (σ.2 a0 15)) (8 : Int32)) (zbr (((1 : Int32) <<< ((σ.1 (σ.2 a0 15) (8 : Int32).toNatClampNeg) &&& 31)) ≤ x3) (some (x2, σ)) (zbr ((x3 &&& x1) = 0) (zbd (f_X11_paysOf a0 x3 σ) (fun r2 σ3 => zbd (f_X11_paysOf a0 x2 σ3) (fun r4 σ5 => zbr (r2 ≤ r4) (f_X11_takenOf_46 a0 (f_X11_takenOf_4 a0 n) x1 x2 x3 σ5) (zbd (f_X11_canTake a0 x3 σ5) (fun r6 σ7 => zbr (r6 = 0) (f_X11_takenOf_46 a0 (f_X11_takenOf_4 a0 n) x1 x2 x3 σ7) (zlt x3 (fun v8 => f_X11_takenOf_46 a0 (f_X11_takenOf_4 a0 n) x1 v8 x3 σ7))))))) (f_X11_takenOf_46 a0 (f_X11_takenOf_4 a0 n) x1 x2 x3 σ)))
theorem t_X11_takenOf_4 (X : zX) (d : Nat) (hd : 2 ≤ d + 1) (a0 : Nat) (h0 : WM.2 a0 = (11, 0)) : ∀ (n : Nat) (x1 : Int32) (x2 : Int32) (x3 : Int32) (σ : zS), zK X WM (zrm (d + 1)) M_X11_takenOf (zZ X WM zeI) 4 [some (.ref a0), some (.int x1), some (.int x2), some (.int x3)] [] σ (f_X11_takenOf_4 a0 n x1 x2 x3 σ) := by
  intro n
  induction n with
  | zero => intro x1 x2 x3 σ; exact z_none
  | succ n ih =>
    intro x1 x2 x3 σ
    rw [f_X11_takenOf_4]
    refine z_iload3 4 5 rfl rfl ?_
    refine z_iconst 5 6 rfl rfl ci_1 ?_
    refine z_aload0 6 7 rfl rfl ?_
    refine z_getR 7 10 15 rfl rfl zf_X11_20 rfl h0 ?_
    refine z_bipush 8 12 rfl rfl cb_8 ?_
    refine z_iald 9 13 rfl rfl ?_
    refine z_ishl 10 14 rfl rfl ?_
    refine z_icmp_ge 11 17 52 rfl rfl (by decide) ?_ ?_
    · refine z_iload2 31 53 rfl rfl ?_
      exact z_iret 32 rfl rfl
    · refine z_iload3 12 18 rfl rfl ?_
      refine z_iload1 13 19 rfl rfl ?_
      refine z_iand 14 20 rfl rfl ?_
      refine z_if_ne 15 23 46 rfl rfl (by decide) ?_ ?_
      · refine z_aload0 16 24 rfl rfl ?_
        refine z_iload3 17 25 rfl rfl ?_
        refine z_cV1I 18 28 rfl rfl zl_X11_399 F_X11_paysOf (zR_rm (by omega)) (c_X11_paysOf X d (by omega) a0 x3 σ) ⟨by decide, rfl, rfl⟩ h0 rfl (Nat.le_of_ble_eq_true rfl) (fun r2 σ3 => ?_)
        refine z_aload0 19 29 rfl rfl ?_
        refine z_iload2 20 30 rfl rfl ?_
        refine z_cV1I 21 33 rfl rfl zl_X11_399 F_X11_paysOf (zR_rm (by omega)) (c_X11_paysOf X d (by omega) a0 x2 σ3) ⟨by decide, rfl, rfl⟩ h0 rfl (Nat.le_of_ble_eq_true rfl) (fun r4 σ5 => ?_)
        refine z_icmp_le 22 36 46 rfl rfl (by decide) ?_ ?_
        · exact t_X11_takenOf_46 X d hd a0 h0 (f_X11_takenOf_4 a0 n) ih x1 x2 x3 σ5
        · refine z_aload0 23 37 rfl rfl ?_
          refine z_iload3 24 38 rfl rfl ?_
          refine z_cV1I 25 41 rfl rfl zl_X11_402 F_X11_canTake (zR_rm (by omega)) (c_X11_canTake X d (by omega) a0 x3 σ5) ⟨by decide, rfl, rfl⟩ h0 rfl (Nat.le_of_ble_eq_true rfl) (fun r6 σ7 => ?_)
          refine z_if_eq 26 44 46 rfl rfl (by decide) ?_ ?_
          · exact t_X11_takenOf_46 X d hd a0 h0 (f_X11_takenOf_4 a0 n) ih x1 x2 x3 σ7
          · refine z_iload3 27 45 rfl rfl ?_
            refine z_istore2 28 46 rfl rfl rfl (fun v8 => ?_)
            exact t_X11_takenOf_46 X d hd a0 h0 (f_X11_takenOf_4 a0 n) ih x1 v8 x3 σ7
      · exact t_X11_takenOf_46 X d hd a0 h0 (f_X11_takenOf_4 a0 n) ih x1 x2 x3 σ
def f_X11_takenOf (a0 : Nat) (x1 : Int32) (σ : zS) : Option (Int32 × zS) := zck (WM.2 a0 = (11, 0)) (zlt (0 : Int32) (fun v9 => zlt (1 : Int32) (fun v10 => f_X11_takenOf_4 a0 FU x1 v9 v10 σ)))
theorem c_X11_takenOf (X : zX) (d : Nat) (hd : 2 ≤ d) (a0 : Nat) (x1 : Int32) (σ : zS) : ∀ (r : Int32) (σ' : zS), f_X11_takenOf a0 x1 σ = some (r, σ') → zCN X WM d M_X11_takenOf [.ref a0, .int x1] σ (zeI r, σ') := by
  obtain ⟨d, rfl⟩ : ∃ e, d = e + 1 := ⟨d - 1, by omega⟩
  refine z_entry [.ref a0, .int x1] (by decide +kernel) T_X11_takenOf (Nat.le_of_ble_eq_true rfl) ?_
  show zK X WM (zrm (d + 1)) M_X11_takenOf (zZ X WM zeI) 0 [some (.ref a0), some (.int x1), none, none] [] σ (f_X11_takenOf a0 x1 σ)
  unfold f_X11_takenOf
  refine z_ck (fun h0 => ?_)
  refine z_iconst 0 1 rfl rfl ci_0 ?_
  refine z_istore2 1 2 rfl rfl rfl (fun v9 => ?_)
  refine z_iconst 2 3 rfl rfl ci_1 ?_
  refine z_istore3 3 4 rfl rfl rfl (fun v10 => ?_)
  exact t_X11_takenOf_4 X d hd a0 h0  FU x1 v9 v10 σ
def f_X11_taken (a0 : Nat) (σ : zS) : Option (Int32 × zS) := zck (WM.2 a0 = (11, 0)) (zbd (f_X11_good a0 σ) (fun r1 σ2 => zbr ((σ2.1 a0 14) = 0) (zbd (f_X11_no a0 (1 : Int32) σ2) (fun r3 σ4 => some (r3, σ4))) (zbd (f_X11_takenOf a0 (0 : Int32) σ2) (fun r5 σ6 => some (r5, σ6)))))
theorem c_X11_taken (X : zX) (d : Nat) (hd : 3 ≤ d) (a0 : Nat) (σ : zS) : ∀ (r : Int32) (σ' : zS), f_X11_taken a0 σ = some (r, σ') → zCN X WM d M_X11_taken [.ref a0] σ (zeI r, σ') := by
  obtain ⟨d, rfl⟩ : ∃ e, d = e + 1 := ⟨d - 1, by omega⟩
  refine z_entry [.ref a0] (by decide +kernel) T_X11_taken (Nat.le_of_ble_eq_true rfl) ?_
  show zK X WM (zrm (d + 1)) M_X11_taken (zZ X WM zeI) 0 [some (.ref a0)] [] σ (f_X11_taken a0 σ)
  unfold f_X11_taken
  refine z_ck (fun h0 => ?_)
  refine z_aload0 0 1 rfl rfl ?_
  refine z_cV0V 1 4 rfl rfl zl_X11_178 F_X11_good (zR_rm (by omega)) (c_X11_good X d a0 σ) ⟨by decide, rfl, rfl⟩ h0 rfl (Nat.le_of_ble_eq_true rfl) (fun r1 σ2 => ?_)
  refine z_aload0 2 5 rfl rfl ?_
  refine z_getI 3 8 14 rfl rfl zf_X11_191 rfl h0 ?_
  refine z_if_eq 4 11 19 rfl rfl (by decide) ?_ ?_
  · refine z_aload0 9 20 rfl rfl ?_
    refine z_iconst 10 21 rfl rfl ci_1 ?_
    refine z_cV1I 11 24 rfl rfl zl_X11_181 F_X11_no (zR_rm (by omega)) (c_X11_no X d a0 (1 : Int32) σ2) ⟨by decide, rfl, rfl⟩ h0 rfl (Nat.le_of_ble_eq_true rfl) (fun r3 σ4 => ?_)
    exact z_iret 12 rfl rfl
  · refine z_aload0 5 12 rfl rfl ?_
    refine z_iconst 6 13 rfl rfl ci_0 ?_
    refine z_cV1I 7 16 rfl rfl zl_X11_405 F_X11_takenOf (zR_rm (by omega)) (c_X11_takenOf X d (by omega) a0 (0 : Int32) σ2) ⟨by decide, rfl, rfl⟩ h0 rfl (Nat.le_of_ble_eq_true rfl) (fun r5 σ6 => ?_)
    refine z_goto 8 24 rfl (by decide) ?_
    exact z_iret 12 rfl rfl
def f_X11_paid (a0 : Nat) (σ : zS) : Option (Int32 × zS) := zck (WM.2 a0 = (11, 0)) (zbd (f_X11_good a0 σ) (fun r1 σ2 => zbr ((σ2.1 a0 14) = 0) (zbd (f_X11_no a0 (1 : Int32) σ2) (fun r3 σ4 => some (r3, σ4))) (zbd (f_X11_takenOf a0 (0 : Int32) σ2) (fun r5 σ6 => zbd (f_X11_paysOf a0 r5 σ6) (fun r7 σ8 => some (r7, σ8))))))
theorem c_X11_paid (X : zX) (d : Nat) (hd : 3 ≤ d) (a0 : Nat) (σ : zS) : ∀ (r : Int32) (σ' : zS), f_X11_paid a0 σ = some (r, σ') → zCN X WM d M_X11_paid [.ref a0] σ (zeI r, σ') := by
  obtain ⟨d, rfl⟩ : ∃ e, d = e + 1 := ⟨d - 1, by omega⟩
  refine z_entry [.ref a0] (by decide +kernel) T_X11_paid (Nat.le_of_ble_eq_true rfl) ?_
  show zK X WM (zrm (d + 1)) M_X11_paid (zZ X WM zeI) 0 [some (.ref a0)] [] σ (f_X11_paid a0 σ)
  unfold f_X11_paid
  refine z_ck (fun h0 => ?_)
  refine z_aload0 0 1 rfl rfl ?_
  refine z_cV0V 1 4 rfl rfl zl_X11_178 F_X11_good (zR_rm (by omega)) (c_X11_good X d a0 σ) ⟨by decide, rfl, rfl⟩ h0 rfl (Nat.le_of_ble_eq_true rfl) (fun r1 σ2 => ?_)
  refine z_aload0 2 5 rfl rfl ?_
  refine z_getI 3 8 14 rfl rfl zf_X11_191 rfl h0 ?_
  refine z_if_eq 4 11 23 rfl rfl (by decide) ?_ ?_
  · refine z_aload0 11 24 rfl rfl ?_
    refine z_iconst 12 25 rfl rfl ci_1 ?_
    refine z_cV1I 13 28 rfl rfl zl_X11_181 F_X11_no (zR_rm (by omega)) (c_X11_no X d a0 (1 : Int32) σ2) ⟨by decide, rfl, rfl⟩ h0 rfl (Nat.le_of_ble_eq_true rfl) (fun r3 σ4 => ?_)
    exact z_iret 14 rfl rfl
  · refine z_aload0 5 12 rfl rfl ?_
    refine z_aload0 6 13 rfl rfl ?_
    refine z_iconst 7 14 rfl rfl ci_0 ?_
    refine z_cV1I 8 17 rfl rfl zl_X11_405 F_X11_takenOf (zR_rm (by omega)) (c_X11_takenOf X d (by omega) a0 (0 : Int32) σ2) ⟨by decide, rfl, rfl⟩ h0 rfl (Nat.le_of_ble_eq_true rfl) (fun r5 σ6 => ?_)
    refine z_cV1I 9 20 rfl rfl zl_X11_399 F_X11_paysOf (zR_rm (by omega)) (c_X11_paysOf X d (by omega) a0 r5 σ6) ⟨by decide, rfl, rfl⟩ h0 rfl (Nat.le_of_ble_eq_true rfl) (fun r7 σ8 => ?_)
    refine z_goto 10 28 rfl (by decide) ?_
    exact z_iret 14 rfl rfl
def f_X11_worthOf_28 (a0 : Nat)  (σ : zS) : Option (Int32 × zS) := zbd (f_X11_no a0 (1 : Int32) σ) (fun r1 σ2 => some (r1, σ2))
theorem t_X11_worthOf_28 (X : zX) (d : Nat) (hd : 3 ≤ d + 1) (a0 : Nat) (h0 : WM.2 a0 = (11, 0))  (σ : zS) : zK X WM (zrm (d + 1)) M_X11_worthOf (zZ X WM zeI) 28 [some (.ref a0), none] [] σ (f_X11_worthOf_28 a0 σ) := by
  unfold f_X11_worthOf_28
  refine z_aload0 15 29 rfl rfl ?_
  refine z_iconst 16 30 rfl rfl ci_1 ?_
  refine z_cV1I 17 33 rfl rfl zl_X11_181 F_X11_no (zR_rm (by omega)) (c_X11_no X d a0 (1 : Int32) σ) ⟨by decide, rfl, rfl⟩ h0 rfl (Nat.le_of_ble_eq_true rfl) (fun r1 σ2 => ?_)
  exact z_iret 18 rfl rfl
def f_X11_worthOf (a0 : Nat) (x1 : Int32) (σ : zS) : Option (Int32 × zS) := zck (WM.2 a0 = (11, 0)) (zbd (f_X11_good a0 σ) (fun r3 σ4 => zbr ((σ4.1 a0 14) = 0) (f_X11_worthOf_28 a0 σ4) (zck (zok 100 (WM.2 (σ4.2 a0 15)) (8 : Int32)) (zbd (f_X11_in x1 (0 : Int32) ((σ4.1 (σ4.2 a0 15) (8 : Int32).toNatClampNeg) - (1 : Int32)) σ4) (fun r5 σ6 => zbr (r5 = 0) (f_X11_worthOf_28 a0 σ6) (zbd (f_X11_takenOf a0 (0 : Int32) σ6) (fun r7 σ8 => zbd (f_X11_paysOf a0 r7 σ8) (fun r9 σ10 => zbd (f_X11_takenOf a0 ((1 : Int32) <<< (x1 &&& 31)) σ10) (fun r11 σ12 => zbd (f_X11_paysOf a0 r11 σ12) (fun r13 σ14 => some ((r9 - r13), σ14)))))))))))
theorem c_X11_worthOf (X : zX) (d : Nat) (hd : 3 ≤ d) (a0 : Nat) (x1 : Int32) (σ : zS) : ∀ (r : Int32) (σ' : zS), f_X11_worthOf a0 x1 σ = some (r, σ') → zCN X WM d M_X11_worthOf [.ref a0, .int x1] σ (zeI r, σ') := by
  obtain ⟨d, rfl⟩ : ∃ e, d = e + 1 := ⟨d - 1, by omega⟩
  refine z_entry [.ref a0, .int x1] (by decide +kernel) T_X11_worthOf (Nat.le_of_ble_eq_true rfl) ?_
  show zK X WM (zrm (d + 1)) M_X11_worthOf (zZ X WM zeI) 0 [some (.ref a0), some (.int x1)] [] σ (f_X11_worthOf a0 x1 σ)
  unfold f_X11_worthOf
  refine z_ck (fun h0 => ?_)
  refine z_aload0 0 1 rfl rfl ?_
  refine z_cV0V 1 4 rfl rfl zl_X11_178 F_X11_good (zR_rm (by omega)) (c_X11_good X d a0 σ) ⟨by decide, rfl, rfl⟩ h0 rfl (Nat.le_of_ble_eq_true rfl) (fun r3 σ4 => ?_)
  refine z_aload0 2 5 rfl rfl ?_
  refine z_getI 3 8 14 rfl rfl zf_X11_191 rfl h0 ?_
  refine z_if_eq 4 11 28 rfl rfl (by decide) ?_ ?_
  · exact z_wk (zle_e (zle_n zle_0)) (t_X11_worthOf_28 X d hd a0 h0  σ4)
  · refine z_iload1 5 12 rfl rfl ?_
    refine z_iconst 6 13 rfl rfl ci_0 ?_
    refine z_aload0 7 14 rfl rfl ?_
    refine z_getR 8 17 15 rfl rfl zf_X11_20 rfl h0 ?_
    refine z_bipush 9 19 rfl rfl cb_8 ?_
    refine z_iald 10 20 rfl rfl ?_
    refine z_iconst 11 21 rfl rfl ci_1 ?_
    refine z_isub 12 22 rfl rfl ?_
    refine z_cS3I 13 25 rfl rfl zl_X11_157 F_X11_in (zR_rm (by omega)) (c_X11_in X d x1 (0 : Int32) ((σ4.1 (σ4.2 a0 15) (8 : Int32).toNatClampNeg) - (1 : Int32)) σ4) rfl (Nat.le_of_ble_eq_true rfl) (fun r5 σ6 => ?_)
    refine z_if_ne 14 28 34 rfl rfl (by decide) ?_ ?_
    · exact z_wk (zle_e (zle_n zle_0)) (t_X11_worthOf_28 X d hd a0 h0  σ6)
    · refine z_aload0 19 35 rfl rfl ?_
      refine z_aload0 20 36 rfl rfl ?_
      refine z_iconst 21 37 rfl rfl ci_0 ?_
      refine z_cV1I 22 40 rfl rfl zl_X11_405 F_X11_takenOf (zR_rm (by omega)) (c_X11_takenOf X d (by omega) a0 (0 : Int32) σ6) ⟨by decide, rfl, rfl⟩ h0 rfl (Nat.le_of_ble_eq_true rfl) (fun r7 σ8 => ?_)
      refine z_cV1I 23 43 rfl rfl zl_X11_399 F_X11_paysOf (zR_rm (by omega)) (c_X11_paysOf X d (by omega) a0 r7 σ8) ⟨by decide, rfl, rfl⟩ h0 rfl (Nat.le_of_ble_eq_true rfl) (fun r9 σ10 => ?_)
      refine z_aload0 24 44 rfl rfl ?_
      refine z_aload0 25 45 rfl rfl ?_
      refine z_iconst 26 46 rfl rfl ci_1 ?_
      refine z_iload1 27 47 rfl rfl ?_
      refine z_ishl 28 48 rfl rfl ?_
      refine z_cV1I 29 51 rfl rfl zl_X11_405 F_X11_takenOf (zR_rm (by omega)) (c_X11_takenOf X d (by omega) a0 ((1 : Int32) <<< (x1 &&& 31)) σ10) ⟨by decide, rfl, rfl⟩ h0 rfl (Nat.le_of_ble_eq_true rfl) (fun r11 σ12 => ?_)
      refine z_cV1I 30 54 rfl rfl zl_X11_399 F_X11_paysOf (zR_rm (by omega)) (c_X11_paysOf X d (by omega) a0 r11 σ12) ⟨by decide, rfl, rfl⟩ h0 rfl (Nat.le_of_ble_eq_true rfl) (fun r13 σ14 => ?_)
      refine z_isub 31 55 rfl rfl ?_
      exact z_iret 32 rfl rfl
def f_X11_choicesOf (a0 : Nat) (σ : zS) : Option (Int32 × zS) := zck (WM.2 a0 = (11, 0)) (zck (zok 100 (WM.2 (σ.2 a0 15)) (4 : Int32)) (some ((((2 : Int32) * (σ.1 (σ.2 a0 15) (4 : Int32).toNatClampNeg)) + (1 : Int32)), σ)))
theorem c_X11_choicesOf (X : zX) (d : Nat) (a0 : Nat) (σ : zS) : ∀ (r : Int32) (σ' : zS), f_X11_choicesOf a0 σ = some (r, σ') → zCN X WM d M_X11_choicesOf [.ref a0] σ (zeI r, σ') := by
  refine z_entry [.ref a0] (by decide +kernel) T_X11_choicesOf (Nat.le_of_ble_eq_true rfl) ?_
  show zK X WM (zrm d) M_X11_choicesOf (zZ X WM zeI) 0 [some (.ref a0)] [] σ (f_X11_choicesOf a0 σ)
  unfold f_X11_choicesOf
  refine z_ck (fun h0 => ?_)
  refine z_iconst 0 1 rfl rfl ci_2 ?_
  refine z_aload0 1 2 rfl rfl ?_
  refine z_getR 2 5 15 rfl rfl zf_X11_20 rfl h0 ?_
  refine z_iconst 3 6 rfl rfl ci_4 ?_
  refine z_iald 4 7 rfl rfl ?_
  refine z_imul 5 8 rfl rfl ?_
  refine z_iconst 6 9 rfl rfl ci_1 ?_
  refine z_iadd 7 10 rfl rfl ?_
  exact z_iret 8 rfl rfl
def f_X11_fillings_4 (a0 : Nat) : Nat → Int32 → Int32 → zS → Option (Int32 × zS)
  | 0, _, _, _ => none
  | n + 1, x1, x2, σ => zck (zok 100 (WM.2 (σ.2 a0 15)) (6 : Int32)) (zbr ((σ.1 (σ.2 a0 15) (6 : Int32).toNatClampNeg) ≤ x2) (some (x1, σ)) (zbd (f_X11_choicesOf a0 σ) (fun r1 σ2 => zlt (x1 * r1) (fun v3 => zlt (x2 + (1 : Int32)) (fun v4 => f_X11_fillings_4 a0 n v3 v4 σ2)))))
theorem t_X11_fillings_4 (X : zX) (d : Nat) (hd : 1 ≤ d + 1) (a0 : Nat) (h0 : WM.2 a0 = (11, 0)) : ∀ (n : Nat) (x1 : Int32) (x2 : Int32) (σ : zS), zK X WM (zrm (d + 1)) M_X11_fillings (zZ X WM zeI) 4 [some (.ref a0), some (.int x1), some (.int x2)] [] σ (f_X11_fillings_4 a0 n x1 x2 σ) := by
  intro n
  induction n with
  | zero => intro x1 x2 σ; exact z_none
  | succ n ih =>
    intro x1 x2 σ
    rw [f_X11_fillings_4]
    refine z_iload2 4 5 rfl rfl ?_
    refine z_aload0 5 6 rfl rfl ?_
    refine z_getR 6 9 15 rfl rfl zf_X11_20 rfl h0 ?_
    refine z_bipush 7 11 rfl rfl cb_6 ?_
    refine z_iald 8 12 rfl rfl ?_
    refine z_icmp_ge 9 15 28 rfl rfl (by decide) ?_ ?_
    · refine z_iload1 17 29 rfl rfl ?_
      exact z_iret 18 rfl rfl
    · refine z_iload1 10 16 rfl rfl ?_
      refine z_aload0 11 17 rfl rfl ?_
      refine z_cV0I 12 20 rfl rfl zl_X11_408 F_X11_choicesOf (zR_rm (by omega)) (c_X11_choicesOf X d a0 σ) ⟨by decide, rfl, rfl⟩ h0 rfl (Nat.le_of_ble_eq_true rfl) (fun r1 σ2 => ?_)
      refine z_imul 13 21 rfl rfl ?_
      refine z_istore1 14 22 rfl rfl rfl (fun v3 => ?_)
      refine z_iinc2 15 25 rfl rfl ci_1 rfl (fun v4 => ?_)
      refine z_goto 16 4 rfl (by decide) ?_
      exact ih v3 v4 σ2
def f_X11_fillings (a0 : Nat) (σ : zS) : Option (Int32 × zS) := zck (WM.2 a0 = (11, 0)) (zlt (1 : Int32) (fun v5 => zlt (0 : Int32) (fun v6 => f_X11_fillings_4 a0 FU v5 v6 σ)))
theorem c_X11_fillings (X : zX) (d : Nat) (hd : 1 ≤ d) (a0 : Nat) (σ : zS) : ∀ (r : Int32) (σ' : zS), f_X11_fillings a0 σ = some (r, σ') → zCN X WM d M_X11_fillings [.ref a0] σ (zeI r, σ') := by
  obtain ⟨d, rfl⟩ : ∃ e, d = e + 1 := ⟨d - 1, by omega⟩
  refine z_entry [.ref a0] (by decide +kernel) T_X11_fillings (Nat.le_of_ble_eq_true rfl) ?_
  show zK X WM (zrm (d + 1)) M_X11_fillings (zZ X WM zeI) 0 [some (.ref a0), none, none] [] σ (f_X11_fillings a0 σ)
  unfold f_X11_fillings
  refine z_ck (fun h0 => ?_)
  refine z_iconst 0 1 rfl rfl ci_1 ?_
  refine z_istore1 1 2 rfl rfl rfl (fun v5 => ?_)
  refine z_iconst 2 3 rfl rfl ci_0 ?_
  refine z_istore2 3 4 rfl rfl rfl (fun v6 => ?_)
  exact t_X11_fillings_4 X d hd a0 h0  FU v5 v6 σ
def f_X11_choiceOf_13 (a0 : Nat) : Nat → Int32 → Int32 → Int32 → zS → Option (Int32 × zS)
  | 0, _, _, _, _ => none
  | n + 1, x2, x3, x4, σ => zbr (x4 ≤ x2) (zbd (f_X11_choicesOf a0 σ) (fun r1 σ2 => zck (¬ r1 = 0) (some ((x3 - x3 / r1 * r1), σ2)))) (zbd (f_X11_choicesOf a0 σ) (fun r4 σ5 => zck (¬ r4 = 0) (zlt (x3 / r4) (fun v7 => zlt (x4 + (-1 : Int32)) (fun v8 => f_X11_choiceOf_13 a0 n x2 v7 v8 σ5)))))
theorem t_X11_choiceOf_13 (X : zX) (d : Nat) (hd : 1 ≤ d + 1) (a0 : Nat) (h0 : WM.2 a0 = (11, 0)) : ∀ (n : Nat) (x2 : Int32) (x3 : Int32) (x4 : Int32) (σ : zS), zK X WM (zrm (d + 1)) M_X11_choiceOf (zZ X WM zeI) 13 [some (.ref a0), none, some (.int x2), some (.int x3), some (.int x4)] [] σ (f_X11_choiceOf_13 a0 n x2 x3 x4 σ) := by
  intro n
  induction n with
  | zero => intro x2 x3 x4 σ; exact z_none
  | succ n ih =>
    intro x2 x3 x4 σ
    rw [f_X11_choiceOf_13]
    refine z_iload4 9 15 rfl rfl ?_
    refine z_iload2 10 16 rfl rfl ?_
    refine z_icmp_le 11 19 32 rfl rfl (by decide) ?_ ?_
    · refine z_iload3 19 33 rfl rfl ?_
      refine z_aload0 20 34 rfl rfl ?_
      refine z_cV0I 21 37 rfl rfl zl_X11_408 F_X11_choicesOf (zR_rm (by omega)) (c_X11_choicesOf X d a0 σ) ⟨by decide, rfl, rfl⟩ h0 rfl (Nat.le_of_ble_eq_true rfl) (fun r1 σ2 => ?_)
      refine z_ck (fun h3 => ?_)
      refine z_irem 22 38 rfl rfl h3 ?_
      exact z_iret 23 rfl rfl
    · refine z_iload3 12 20 rfl rfl ?_
      refine z_aload0 13 21 rfl rfl ?_
      refine z_cV0I 14 24 rfl rfl zl_X11_408 F_X11_choicesOf (zR_rm (by omega)) (c_X11_choicesOf X d a0 σ) ⟨by decide, rfl, rfl⟩ h0 rfl (Nat.le_of_ble_eq_true rfl) (fun r4 σ5 => ?_)
      refine z_ck (fun h6 => ?_)
      refine z_idiv 15 25 rfl rfl h6 ?_
      refine z_istore3 16 26 rfl rfl rfl (fun v7 => ?_)
      refine z_iinc4 17 29 rfl rfl ci_m1 rfl (fun v8 => ?_)
      refine z_goto 18 13 rfl (by decide) ?_
      exact ih x2 v7 v8 σ5
def f_X11_choiceOf (a0 : Nat) (x1 : Int32) (x2 : Int32) (σ : zS) : Option (Int32 × zS) := zck (WM.2 a0 = (11, 0)) (zlt x1 (fun v9 => zck (zok 100 (WM.2 (σ.2 a0 15)) (6 : Int32)) (zlt ((σ.1 (σ.2 a0 15) (6 : Int32).toNatClampNeg) - (1 : Int32)) (fun v10 => f_X11_choiceOf_13 a0 FU x2 v9 v10 σ))))
theorem c_X11_choiceOf (X : zX) (d : Nat) (hd : 1 ≤ d) (a0 : Nat) (x1 : Int32) (x2 : Int32) (σ : zS) : ∀ (r : Int32) (σ' : zS), f_X11_choiceOf a0 x1 x2 σ = some (r, σ') → zCN X WM d M_X11_choiceOf [.ref a0, .int x1, .int x2] σ (zeI r, σ') := by
  obtain ⟨d, rfl⟩ : ∃ e, d = e + 1 := ⟨d - 1, by omega⟩
  refine z_entry [.ref a0, .int x1, .int x2] (by decide +kernel) T_X11_choiceOf (Nat.le_of_ble_eq_true rfl) ?_
  show zK X WM (zrm (d + 1)) M_X11_choiceOf (zZ X WM zeI) 0 [some (.ref a0), some (.int x1), some (.int x2), none, none] [] σ (f_X11_choiceOf a0 x1 x2 σ)
  unfold f_X11_choiceOf
  refine z_ck (fun h0 => ?_)
  refine z_iload1 0 1 rfl rfl ?_
  refine z_istore3 1 2 rfl rfl rfl (fun v9 => ?_)
  refine z_aload0 2 3 rfl rfl ?_
  refine z_getR 3 6 15 rfl rfl zf_X11_20 rfl h0 ?_
  refine z_bipush 4 8 rfl rfl cb_6 ?_
  refine z_iald 5 9 rfl rfl ?_
  refine z_iconst 6 10 rfl rfl ci_1 ?_
  refine z_isub 7 11 rfl rfl ?_
  refine z_istore4 8 13 rfl rfl rfl (fun v10 => ?_)
  exact z_wk (zle_e (zle_n (zle_e (zle_e (zle_e zle_0))))) (t_X11_choiceOf_13 X d hd a0 h0  FU x2 v9 v10 σ)
def f_X11_doneFilled_90 (a0 : Nat)  (σ : zS) : Option (Int32 × zS) := zbd (f_X11_listDone a0 σ) (fun r1 σ2 => some (r1, σ2))
theorem t_X11_doneFilled_90 (X : zX) (d : Nat) (hd : 5 ≤ d + 1) (a0 : Nat) (h0 : WM.2 a0 = (11, 0))  (σ : zS) : zK X WM (zrm (d + 1)) M_X11_doneFilled (zZ X WM zeI) 90 [some (.ref a0), none, none, none, none] [] σ (f_X11_doneFilled_90 a0 σ) := by
  unfold f_X11_doneFilled_90
  refine z_aload0 54 91 rfl rfl ?_
  refine z_cV0I 55 94 rfl rfl zl_X11_305 F_X11_listDone (zR_rm (by omega)) (c_X11_listDone X d (by omega) a0 σ) ⟨by decide, rfl, rfl⟩ h0 rfl (Nat.le_of_ble_eq_true rfl) (fun r1 σ2 => ?_)
  exact z_iret 56 rfl rfl
def f_X11_doneFilled_84 (a0 : Nat) (H19 : Int32 → Int32 → Int32 → zS → Option (Int32 × zS)) (x1 : Int32) (x2 : Int32) (x3 : Int32) (σ : zS) : Option (Int32 × zS) := zlt (x3 + (1 : Int32)) (fun v3 => H19 x1 x2 v3 σ)
theorem t_X11_doneFilled_84 (X : zX) (d : Nat) (hd : 5 ≤ d + 1) (a0 : Nat) (h0 : WM.2 a0 = (11, 0)) (H19 : Int32 → Int32 → Int32 → zS → Option (Int32 × zS)) (hH19 : ∀ (x1 : Int32) (x2 : Int32) (x3 : Int32) (σ : zS), zK X WM (zrm (d + 1)) M_X11_doneFilled (zZ X WM zeI) 19 [some (.ref a0), some (.int x1), some (.int x2), some (.int x3), none] [] σ (H19 x1 x2 x3 σ)) (x1 : Int32) (x2 : Int32) (x3 : Int32) (σ : zS) : zK X WM (zrm (d + 1)) M_X11_doneFilled (zZ X WM zeI) 84 [some (.ref a0), some (.int x1), some (.int x2), some (.int x3), none] [] σ (f_X11_doneFilled_84 a0 H19 x1 x2 x3 σ) := by
  unfold f_X11_doneFilled_84
  refine z_iinc3 52 87 rfl rfl ci_1 rfl (fun v3 => ?_)
  refine z_goto 53 19 rfl (by decide) ?_
  exact hH19 x1 x2 v3 σ
def f_X11_doneFilled_19 (a0 : Nat) : Nat → Int32 → Int32 → Int32 → zS → Option (Int32 × zS)
  | 0, _, _, _, _ => none
  | n + 1, x1, x2, x3, σ => zck (zok 100 (WM.2 (σ.2 a0 15)) (6 : Int32)) (zbr ((σ.1 (σ.2 a0 15) (6 : Int32).toNatClampNeg) ≤ x3) (f_X11_doneFilled_90 a0 σ) (zbr (x2 < 0) (f_X11_doneFilled_90 a0 σ) (zbd (f_X11_choiceOf a0 x2 x3 σ) (fun r4 σ5 => zlt r4 (fun v6 => zck (¬ (2 : Int32) = 0) (zbr ((v6 / (2 : Int32)) = x1) (zck (zok 100 (WM.2 (σ5.2 a0 15)) (4 : Int32)) (zbr (((2 : Int32) * (σ5.1 (σ5.2 a0 15) (4 : Int32).toNatClampNeg)) ≤ v6) (f_X11_doneFilled_84 a0 (f_X11_doneFilled_19 a0 n) x1 x2 x3 σ5) (zck (zok 100 (WM.2 (σ5.2 a0 15)) ((38 : Int32) + x3)) (zck (¬ (2 : Int32) = 0) (zbd (f_X11_add a0 (σ5.1 (σ5.2 a0 15) ((38 : Int32) + x3).toNatClampNeg) (v6 - v6 / (2 : Int32) * (2 : Int32)) ((8 : Int32) + x3) σ5) (fun r9 σ10 => f_X11_doneFilled_84 a0 (f_X11_doneFilled_19 a0 n) x1 x2 x3 σ10)))))) (f_X11_doneFilled_84 a0 (f_X11_doneFilled_19 a0 n) x1 x2 x3 σ5)))))))
theorem t_X11_doneFilled_19 (X : zX) (d : Nat) (hd : 5 ≤ d + 1) (a0 : Nat) (h0 : WM.2 a0 = (11, 0)) : ∀ (n : Nat) (x1 : Int32) (x2 : Int32) (x3 : Int32) (σ : zS), zK X WM (zrm (d + 1)) M_X11_doneFilled (zZ X WM zeI) 19 [some (.ref a0), some (.int x1), some (.int x2), some (.int x3), none] [] σ (f_X11_doneFilled_19 a0 n x1 x2 x3 σ) := by
  intro n
  induction n with
  | zero => intro x1 x2 x3 σ; exact z_none
  | succ n ih =>
    intro x1 x2 x3 σ
    rw [f_X11_doneFilled_19]
    refine z_iload3 12 20 rfl rfl ?_
    refine z_aload0 13 21 rfl rfl ?_
    refine z_getR 14 24 15 rfl rfl zf_X11_20 rfl h0 ?_
    refine z_bipush 15 26 rfl rfl cb_6 ?_
    refine z_iald 16 27 rfl rfl ?_
    refine z_icmp_ge 17 30 90 rfl rfl (by decide) ?_ ?_
    · exact z_wk (zle_e (zle_n (zle_n (zle_n (zle_e zle_0))))) (t_X11_doneFilled_90 X d hd a0 h0  σ)
    · refine z_iload2 18 31 rfl rfl ?_
      refine z_if_lt 19 34 90 rfl rfl (by decide) ?_ ?_
      · exact z_wk (zle_e (zle_n (zle_n (zle_n (zle_e zle_0))))) (t_X11_doneFilled_90 X d hd a0 h0  σ)
      · refine z_aload0 20 35 rfl rfl ?_
        refine z_iload2 21 36 rfl rfl ?_
        refine z_iload3 22 37 rfl rfl ?_
        refine z_cV2I 23 40 rfl rfl zl_X11_411 F_X11_choiceOf (zR_rm (by omega)) (c_X11_choiceOf X d (by omega) a0 x2 x3 σ) ⟨by decide, rfl, rfl⟩ h0 rfl (Nat.le_of_ble_eq_true rfl) (fun r4 σ5 => ?_)
        refine z_istore4 24 42 rfl rfl rfl (fun v6 => ?_)
        refine z_iload4 25 44 rfl rfl ?_
        refine z_iconst 26 45 rfl rfl ci_2 ?_
        refine z_ck (fun h7 => ?_)
        refine z_idiv 27 46 rfl rfl h7 ?_
        refine z_iload1 28 47 rfl rfl ?_
        refine z_icmp_ne 29 50 84 rfl rfl (by decide) ?_ ?_
        · refine z_iload4 30 52 rfl rfl ?_
          refine z_iconst 31 53 rfl rfl ci_2 ?_
          refine z_aload0 32 54 rfl rfl ?_
          refine z_getR 33 57 15 rfl rfl zf_X11_20 rfl h0 ?_
          refine z_iconst 34 58 rfl rfl ci_4 ?_
          refine z_iald 35 59 rfl rfl ?_
          refine z_imul 36 60 rfl rfl ?_
          refine z_icmp_ge 37 63 84 rfl rfl (by decide) ?_ ?_
          · exact z_wk (zle_e (zle_e (zle_e (zle_e (zle_n zle_0))))) (t_X11_doneFilled_84 X d hd a0 h0 (f_X11_doneFilled_19 a0 n) ih x1 x2 x3 σ5)
          · refine z_aload0 38 64 rfl rfl ?_
            refine z_aload0 39 65 rfl rfl ?_
            refine z_getR 40 68 15 rfl rfl zf_X11_20 rfl h0 ?_
            refine z_bipush 41 70 rfl rfl cb_38 ?_
            refine z_iload3 42 71 rfl rfl ?_
            refine z_iadd 43 72 rfl rfl ?_
            refine z_iald 44 73 rfl rfl ?_
            refine z_iload4 45 75 rfl rfl ?_
            refine z_iconst 46 76 rfl rfl ci_2 ?_
            refine z_ck (fun h8 => ?_)
            refine z_irem 47 77 rfl rfl h8 ?_
            refine z_bipush 48 79 rfl rfl cb_8 ?_
            refine z_iload3 49 80 rfl rfl ?_
            refine z_iadd 50 81 rfl rfl ?_
            refine z_cV3V 51 84 rfl rfl zl_X11_288 F_X11_add (zR_rm (by omega)) (c_X11_add X d a0 (σ5.1 (σ5.2 a0 15) ((38 : Int32) + x3).toNatClampNeg) (v6 - v6 / (2 : Int32) * (2 : Int32)) ((8 : Int32) + x3) σ5) ⟨by decide, rfl, rfl⟩ h0 rfl (Nat.le_of_ble_eq_true rfl) (fun r9 σ10 => ?_)
            exact z_wk (zle_e (zle_e (zle_e (zle_e (zle_n zle_0))))) (t_X11_doneFilled_84 X d hd a0 h0 (f_X11_doneFilled_19 a0 n) ih x1 x2 x3 σ10)
        · exact z_wk (zle_e (zle_e (zle_e (zle_e (zle_n zle_0))))) (t_X11_doneFilled_84 X d hd a0 h0 (f_X11_doneFilled_19 a0 n) ih x1 x2 x3 σ5)
def f_X11_doneFilled (a0 : Nat) (x1 : Int32) (x2 : Int32) (σ : zS) : Option (Int32 × zS) := zck (WM.2 a0 = (11, 0)) (zck (zok 100 (WM.2 (σ.2 a0 17)) (48 : Int32)) (zbd (f_X11_layList a0 (σ.2 a0 17) x1 (σ.1 (σ.2 a0 17) (48 : Int32).toNatClampNeg) (0 : Int32) σ) (fun r11 σ12 => zlt (0 : Int32) (fun v13 => f_X11_doneFilled_19 a0 FU x1 x2 v13 σ12))))
theorem c_X11_doneFilled (X : zX) (d : Nat) (hd : 5 ≤ d) (a0 : Nat) (x1 : Int32) (x2 : Int32) (σ : zS) : ∀ (r : Int32) (σ' : zS), f_X11_doneFilled a0 x1 x2 σ = some (r, σ') → zCN X WM d M_X11_doneFilled [.ref a0, .int x1, .int x2] σ (zeI r, σ') := by
  obtain ⟨d, rfl⟩ : ∃ e, d = e + 1 := ⟨d - 1, by omega⟩
  refine z_entry [.ref a0, .int x1, .int x2] (by decide +kernel) T_X11_doneFilled (Nat.le_of_ble_eq_true rfl) ?_
  show zK X WM (zrm (d + 1)) M_X11_doneFilled (zZ X WM zeI) 0 [some (.ref a0), some (.int x1), some (.int x2), none, none] [] σ (f_X11_doneFilled a0 x1 x2 σ)
  unfold f_X11_doneFilled
  refine z_ck (fun h0 => ?_)
  refine z_aload0 0 1 rfl rfl ?_
  refine z_aload0 1 2 rfl rfl ?_
  refine z_getR 2 5 17 rfl rfl zf_X11_26 rfl h0 ?_
  refine z_iload1 3 6 rfl rfl ?_
  refine z_aload0 4 7 rfl rfl ?_
  refine z_getR 5 10 17 rfl rfl zf_X11_26 rfl h0 ?_
  refine z_bipush 6 12 rfl rfl cb_48 ?_
  refine z_iald 7 13 rfl rfl ?_
  refine z_iconst 8 14 rfl rfl ci_0 ?_
  refine z_cV4V 9 17 rfl rfl zl_X11_301 F_X11_layList (zR_rm (by omega)) (c_X11_layList X d (by omega) a0 (σ.2 a0 17) x1 (σ.1 (σ.2 a0 17) (48 : Int32).toNatClampNeg) (0 : Int32) σ) ⟨by decide, rfl, rfl⟩ h0 rfl (Nat.le_of_ble_eq_true rfl) (fun r11 σ12 => ?_)
  refine z_iconst 10 18 rfl rfl ci_0 ?_
  refine z_istore3 11 19 rfl rfl rfl (fun v13 => ?_)
  exact t_X11_doneFilled_19 X d hd a0 h0  FU x1 x2 v13 σ12
def f_X11_wrongBy_46 (a0 : Nat) (H2 : Int32 → Int32 → zS → Option (Int32 × zS)) (x1 : Int32) (x2 : Int32) (σ : zS) : Option (Int32 × zS) := zlt (x2 + (1 : Int32)) (fun v1 => H2 x1 v1 σ)
theorem t_X11_wrongBy_46 (X : zX) (d : Nat) (hd : 6 ≤ d + 1) (a0 : Nat) (h0 : WM.2 a0 = (11, 0)) (H2 : Int32 → Int32 → zS → Option (Int32 × zS)) (hH2 : ∀ (x1 : Int32) (x2 : Int32) (σ : zS), zK X WM (zrm (d + 1)) M_X11_wrongBy (zZ X WM zeI) 2 [some (.ref a0), some (.int x1), some (.int x2)] [] σ (H2 x1 x2 σ)) (x1 : Int32) (x2 : Int32) (σ : zS) : zK X WM (zrm (d + 1)) M_X11_wrongBy (zZ X WM zeI) 46 [some (.ref a0), some (.int x1), some (.int x2)] [] σ (f_X11_wrongBy_46 a0 H2 x1 x2 σ) := by
  unfold f_X11_wrongBy_46
  refine z_iinc2 30 49 rfl rfl ci_1 rfl (fun v1 => ?_)
  refine z_goto 31 2 rfl (by decide) ?_
  exact hH2 x1 v1 σ
def f_X11_wrongBy_2 (a0 : Nat) : Nat → Int32 → Int32 → zS → Option (Int32 × zS)
  | 0, _, _, _ => none
  | n + 1, x1, x2, σ => zck (zok 100 (WM.2 (σ.2 a0 15)) (4 : Int32)) (zbr ((σ.1 (σ.2 a0 15) (4 : Int32).toNatClampNeg) ≤ x2) (some ((-2 : Int32), σ)) (zck (zok 100 (WM.2 (σ.2 a0 15)) ((41 : Int32) + x2)) (zbr ((σ.1 (σ.2 a0 15) ((41 : Int32) + x2).toNatClampNeg) ≤ 0) (f_X11_wrongBy_46 a0 (f_X11_wrongBy_2 a0 n) x1 x2 σ) (zbd (f_X11_doneFilled a0 x2 x1 σ) (fun r2 σ3 => zck (zok 100 (WM.2 (σ3.2 a0 15)) ((41 : Int32) + x2)) (zbr (r2 = ((σ3.1 (σ3.2 a0 15) ((41 : Int32) + x2).toNatClampNeg) - (3 : Int32))) (f_X11_wrongBy_46 a0 (f_X11_wrongBy_2 a0 n) x1 x2 σ3) (some (x2, σ3))))))))
theorem t_X11_wrongBy_2 (X : zX) (d : Nat) (hd : 6 ≤ d + 1) (a0 : Nat) (h0 : WM.2 a0 = (11, 0)) : ∀ (n : Nat) (x1 : Int32) (x2 : Int32) (σ : zS), zK X WM (zrm (d + 1)) M_X11_wrongBy (zZ X WM zeI) 2 [some (.ref a0), some (.int x1), some (.int x2)] [] σ (f_X11_wrongBy_2 a0 n x1 x2 σ) := by
  intro n
  induction n with
  | zero => intro x1 x2 σ; exact z_none
  | succ n ih =>
    intro x1 x2 σ
    rw [f_X11_wrongBy_2]
    refine z_iload2 2 3 rfl rfl ?_
    refine z_aload0 3 4 rfl rfl ?_
    refine z_getR 4 7 15 rfl rfl zf_X11_20 rfl h0 ?_
    refine z_iconst 5 8 rfl rfl ci_4 ?_
    refine z_iald 6 9 rfl rfl ?_
    refine z_icmp_ge 7 12 52 rfl rfl (by decide) ?_ ?_
    · refine z_bipush 32 54 rfl rfl cb_m2 ?_
      exact z_iret 33 rfl rfl
    · refine z_aload0 8 13 rfl rfl ?_
      refine z_getR 9 16 15 rfl rfl zf_X11_20 rfl h0 ?_
      refine z_bipush 10 18 rfl rfl cb_41 ?_
      refine z_iload2 11 19 rfl rfl ?_
      refine z_iadd 12 20 rfl rfl ?_
      refine z_iald 13 21 rfl rfl ?_
      refine z_if_le 14 24 46 rfl rfl (by decide) ?_ ?_
      · exact t_X11_wrongBy_46 X d hd a0 h0 (f_X11_wrongBy_2 a0 n) ih x1 x2 σ
      · refine z_aload0 15 25 rfl rfl ?_
        refine z_iload2 16 26 rfl rfl ?_
        refine z_iload1 17 27 rfl rfl ?_
        refine z_cV2I 18 30 rfl rfl zl_X11_414 F_X11_doneFilled (zR_rm (by omega)) (c_X11_doneFilled X d (by omega) a0 x2 x1 σ) ⟨by decide, rfl, rfl⟩ h0 rfl (Nat.le_of_ble_eq_true rfl) (fun r2 σ3 => ?_)
        refine z_aload0 19 31 rfl rfl ?_
        refine z_getR 20 34 15 rfl rfl zf_X11_20 rfl h0 ?_
        refine z_bipush 21 36 rfl rfl cb_41 ?_
        refine z_iload2 22 37 rfl rfl ?_
        refine z_iadd 23 38 rfl rfl ?_
        refine z_iald 24 39 rfl rfl ?_
        refine z_iconst 25 40 rfl rfl ci_3 ?_
        refine z_isub 26 41 rfl rfl ?_
        refine z_icmp_eq 27 44 46 rfl rfl (by decide) ?_ ?_
        · exact t_X11_wrongBy_46 X d hd a0 h0 (f_X11_wrongBy_2 a0 n) ih x1 x2 σ3
        · refine z_iload2 28 45 rfl rfl ?_
          exact z_iret 29 rfl rfl
def f_X11_wrongBy (a0 : Nat) (x1 : Int32) (σ : zS) : Option (Int32 × zS) := zck (WM.2 a0 = (11, 0)) (zlt (0 : Int32) (fun v4 => f_X11_wrongBy_2 a0 FU x1 v4 σ))
theorem c_X11_wrongBy (X : zX) (d : Nat) (hd : 6 ≤ d) (a0 : Nat) (x1 : Int32) (σ : zS) : ∀ (r : Int32) (σ' : zS), f_X11_wrongBy a0 x1 σ = some (r, σ') → zCN X WM d M_X11_wrongBy [.ref a0, .int x1] σ (zeI r, σ') := by
  obtain ⟨d, rfl⟩ : ∃ e, d = e + 1 := ⟨d - 1, by omega⟩
  refine z_entry [.ref a0, .int x1] (by decide +kernel) T_X11_wrongBy (Nat.le_of_ble_eq_true rfl) ?_
  show zK X WM (zrm (d + 1)) M_X11_wrongBy (zZ X WM zeI) 0 [some (.ref a0), some (.int x1), none] [] σ (f_X11_wrongBy a0 x1 σ)
  unfold f_X11_wrongBy
  refine z_ck (fun h0 => ?_)
  refine z_iconst 0 1 rfl rfl ci_0 ?_
  refine z_istore2 1 2 rfl rfl rfl (fun v4 => ?_)
  exact t_X11_wrongBy_2 X d hd a0 h0  FU x1 v4 σ
def f_X11_seekFits_114 (a0 : Nat) (H30 : Int32 → Int32 → Int32 → zS → Option (Int32 × zS)) (x1 : Int32) (x2 : Int32) (x3 : Int32) (σ : zS) : Option (Int32 × zS) := zlt (x3 + (1 : Int32)) (fun v1 => H30 x1 x2 v1 σ)
theorem t_X11_seekFits_114 (X : zX) (d : Nat) (hd : 7 ≤ d + 1) (a0 : Nat) (h0 : WM.2 a0 = (11, 0)) (H30 : Int32 → Int32 → Int32 → zS → Option (Int32 × zS)) (hH30 : ∀ (x1 : Int32) (x2 : Int32) (x3 : Int32) (σ : zS), zK X WM (zrm (d + 1)) M_X11_seekFits (zZ X WM zeI) 30 [some (.ref a0), some (.int x1), some (.int x2), some (.int x3), none] [] σ (H30 x1 x2 x3 σ)) (x1 : Int32) (x2 : Int32) (x3 : Int32) (σ : zS) : zK X WM (zrm (d + 1)) M_X11_seekFits (zZ X WM zeI) 114 [some (.ref a0), some (.int x1), some (.int x2), some (.int x3), none] [] σ (f_X11_seekFits_114 a0 H30 x1 x2 x3 σ) := by
  unfold f_X11_seekFits_114
  refine z_iinc3 66 117 rfl rfl ci_1 rfl (fun v1 => ?_)
  refine z_goto 67 30 rfl (by decide) ?_
  exact hH30 x1 x2 v1 σ
def f_X11_seekFits_74 (a0 : Nat) (H30 : Int32 → Int32 → Int32 → zS → Option (Int32 × zS)) : Nat → Int32 → Int32 → Int32 → Int32 → zS → Option (Int32 × zS)
  | 0, _, _, _, _, _ => none
  | n + 1, x1, x2, x3, x4, σ => zck (zok 100 (WM.2 (σ.2 a0 15)) (6 : Int32)) (zbr ((σ.1 (σ.2 a0 15) (6 : Int32).toNatClampNeg) ≤ x4) (f_X11_seekFits_114 a0 H30 x1 x2 x3 σ) (zbd (f_X11_choiceOf a0 x3 x4 σ) (fun r2 σ3 => zck (zok 100 (WM.2 (σ.2 a0 36)) (((9 : Int32) * x4) + r2)) (zck (zok 100 (WM.2 (σ.2 a0 36)) (((9 : Int32) * x4) + r2)) (zlt (zpi σ3 (σ.2 a0 36) (((9 : Int32) * x4) + r2).toNatClampNeg ((σ3.1 (σ.2 a0 36) (((9 : Int32) * x4) + r2).toNatClampNeg) + (1 : Int32))) (fun σ4 => zlt (x4 + (1 : Int32)) (fun v5 => f_X11_seekFits_74 a0 H30 n x1 x2 x3 v5 σ4)))))))
theorem t_X11_seekFits_74 (X : zX) (d : Nat) (hd : 7 ≤ d + 1) (a0 : Nat) (h0 : WM.2 a0 = (11, 0)) (H30 : Int32 → Int32 → Int32 → zS → Option (Int32 × zS)) (hH30 : ∀ (x1 : Int32) (x2 : Int32) (x3 : Int32) (σ : zS), zK X WM (zrm (d + 1)) M_X11_seekFits (zZ X WM zeI) 30 [some (.ref a0), some (.int x1), some (.int x2), some (.int x3), none] [] σ (H30 x1 x2 x3 σ)) : ∀ (n : Nat) (x1 : Int32) (x2 : Int32) (x3 : Int32) (x4 : Int32) (σ : zS), zK X WM (zrm (d + 1)) M_X11_seekFits (zZ X WM zeI) 74 [some (.ref a0), some (.int x1), some (.int x2), some (.int x3), some (.int x4)] [] σ (f_X11_seekFits_74 a0 H30 n x1 x2 x3 x4 σ) := by
  intro n
  induction n with
  | zero => intro x1 x2 x3 x4 σ; exact z_none
  | succ n ih =>
    intro x1 x2 x3 x4 σ
    rw [f_X11_seekFits_74]
    refine z_iload4 43 76 rfl rfl ?_
    refine z_aload0 44 77 rfl rfl ?_
    refine z_getR 45 80 15 rfl rfl zf_X11_20 rfl h0 ?_
    refine z_bipush 46 82 rfl rfl cb_6 ?_
    refine z_iald 47 83 rfl rfl ?_
    refine z_icmp_ge 48 86 114 rfl rfl (by decide) ?_ ?_
    · exact z_wk (zle_e (zle_e (zle_e (zle_e (zle_n zle_0))))) (t_X11_seekFits_114 X d hd a0 h0 H30 hH30 x1 x2 x3 σ)
    · refine z_aload0 49 87 rfl rfl ?_
      refine z_getR 50 90 36 rfl rfl zf_X11_62 rfl h0 ?_
      refine z_bipush 51 92 rfl rfl cb_9 ?_
      refine z_iload4 52 94 rfl rfl ?_
      refine z_imul 53 95 rfl rfl ?_
      refine z_aload0 54 96 rfl rfl ?_
      refine z_iload3 55 97 rfl rfl ?_
      refine z_iload4 56 99 rfl rfl ?_
      refine z_cV2I 57 102 rfl rfl zl_X11_411 F_X11_choiceOf (zR_rm (by omega)) (c_X11_choiceOf X d (by omega) a0 x3 x4 σ) ⟨by decide, rfl, rfl⟩ h0 rfl (Nat.le_of_ble_eq_true rfl) (fun r2 σ3 => ?_)
      refine z_iadd 58 103 rfl rfl ?_
      refine z_dup2 59 104 rfl rfl rfl rfl ?_
      refine z_iald 60 105 rfl rfl ?_
      refine z_iconst 61 106 rfl rfl ci_1 ?_
      refine z_iadd 62 107 rfl rfl ?_
      refine z_iast 63 108 rfl rfl (fun σ4 => ?_)
      refine z_iinc4 64 111 rfl rfl ci_1 rfl (fun v5 => ?_)
      refine z_goto 65 74 rfl (by decide) ?_
      exact ih x1 x2 x3 v5 σ4
def f_X11_seekFits_61 (a0 : Nat) (H30 : Int32 → Int32 → Int32 → zS → Option (Int32 × zS)) (x1 : Int32) (x2 : Int32) (x3 : Int32) (σ : zS) : Option (Int32 × zS) := zlt (zpi σ a0 37 ((σ.1 a0 37) + (1 : Int32))) (fun σ6 => zlt (0 : Int32) (fun v7 => f_X11_seekFits_74 a0 H30 FU x1 x2 x3 v7 σ6))
theorem t_X11_seekFits_61 (X : zX) (d : Nat) (hd : 7 ≤ d + 1) (a0 : Nat) (h0 : WM.2 a0 = (11, 0)) (H30 : Int32 → Int32 → Int32 → zS → Option (Int32 × zS)) (hH30 : ∀ (x1 : Int32) (x2 : Int32) (x3 : Int32) (σ : zS), zK X WM (zrm (d + 1)) M_X11_seekFits (zZ X WM zeI) 30 [some (.ref a0), some (.int x1), some (.int x2), some (.int x3), none] [] σ (H30 x1 x2 x3 σ)) (x1 : Int32) (x2 : Int32) (x3 : Int32) (σ : zS) : zK X WM (zrm (d + 1)) M_X11_seekFits (zZ X WM zeI) 61 [some (.ref a0), some (.int x1), some (.int x2), some (.int x3), none] [] σ (f_X11_seekFits_61 a0 H30 x1 x2 x3 σ) := by
  unfold f_X11_seekFits_61
  refine z_aload0 35 62 rfl rfl ?_
  refine z_dup 36 63 rfl rfl rfl ?_
  refine z_getI 37 66 37 rfl rfl zf_X11_417 rfl h0 ?_
  refine z_iconst 38 67 rfl rfl ci_1 ?_
  refine z_iadd 39 68 rfl rfl ?_
  refine z_putI 40 71 37 rfl rfl zf_X11_417 rfl rfl rfl h0 (fun σ6 => ?_)
  refine z_iconst 41 72 rfl rfl ci_0 ?_
  refine z_istore4 42 74 rfl rfl rfl (fun v7 => ?_)
  exact t_X11_seekFits_74 X d hd a0 h0 H30 hH30 FU x1 x2 x3 v7 σ6
def f_X11_seekFits_30 (a0 : Nat) : Nat → Int32 → Int32 → Int32 → zS → Option (Int32 × zS)
  | 0, _, _, _, _ => none
  | n + 1, x1, x2, x3, σ => zbd (f_X11_fillings a0 σ) (fun r8 σ9 => zbr (r8 ≤ x3) (some (x2, σ9)) (zbd (f_X11_wrongBy a0 x3 σ9) (fun r10 σ11 => zbr (r10 = (-2 : Int32)) (zbr ((σ11.1 a0 37) = x1) (zlt x3 (fun v12 => f_X11_seekFits_61 a0 (f_X11_seekFits_30 a0 n) x1 v12 x3 σ11)) (f_X11_seekFits_61 a0 (f_X11_seekFits_30 a0 n) x1 x2 x3 σ11)) (f_X11_seekFits_114 a0 (f_X11_seekFits_30 a0 n) x1 x2 x3 σ11))))
theorem t_X11_seekFits_30 (X : zX) (d : Nat) (hd : 7 ≤ d + 1) (a0 : Nat) (h0 : WM.2 a0 = (11, 0)) : ∀ (n : Nat) (x1 : Int32) (x2 : Int32) (x3 : Int32) (σ : zS), zK X WM (zrm (d + 1)) M_X11_seekFits (zZ X WM zeI) 30 [some (.ref a0), some (.int x1), some (.int x2), some (.int x3), none] [] σ (f_X11_seekFits_30 a0 n x1 x2 x3 σ) := by
  intro n
  induction n with
  | zero => intro x1 x2 x3 σ; exact z_none
  | succ n ih =>
    intro x1 x2 x3 σ
    rw [f_X11_seekFits_30]
    refine z_iload3 19 31 rfl rfl ?_
    refine z_aload0 20 32 rfl rfl ?_
    refine z_cV0I 21 35 rfl rfl zl_X11_420 F_X11_fillings (zR_rm (by omega)) (c_X11_fillings X d (by omega) a0 σ) ⟨by decide, rfl, rfl⟩ h0 rfl (Nat.le_of_ble_eq_true rfl) (fun r8 σ9 => ?_)
    refine z_icmp_ge 22 38 120 rfl rfl (by decide) ?_ ?_
    · refine z_iload2 68 121 rfl rfl ?_
      exact z_iret 69 rfl rfl
    · refine z_aload0 23 39 rfl rfl ?_
      refine z_iload3 24 40 rfl rfl ?_
      refine z_cV1I 25 43 rfl rfl zl_X11_423 F_X11_wrongBy (zR_rm (by omega)) (c_X11_wrongBy X d (by omega) a0 x3 σ9) ⟨by decide, rfl, rfl⟩ h0 rfl (Nat.le_of_ble_eq_true rfl) (fun r10 σ11 => ?_)
      refine z_bipush 26 45 rfl rfl cb_m2 ?_
      refine z_icmp_eq 27 48 51 rfl rfl (by decide) ?_ ?_
      · refine z_aload0 29 52 rfl rfl ?_
        refine z_getI 30 55 37 rfl rfl zf_X11_417 rfl h0 ?_
        refine z_iload1 31 56 rfl rfl ?_
        refine z_icmp_ne 32 59 61 rfl rfl (by decide) ?_ ?_
        · refine z_iload3 33 60 rfl rfl ?_
          refine z_istore2 34 61 rfl rfl rfl (fun v12 => ?_)
          exact t_X11_seekFits_61 X d hd a0 h0 (f_X11_seekFits_30 a0 n) ih x1 v12 x3 σ11
        · exact t_X11_seekFits_61 X d hd a0 h0 (f_X11_seekFits_30 a0 n) ih x1 x2 x3 σ11
      · refine z_goto 28 114 rfl (by decide) ?_
        exact t_X11_seekFits_114 X d hd a0 h0 (f_X11_seekFits_30 a0 n) ih x1 x2 x3 σ11
def f_X11_seekFits_9 (a0 : Nat) : Nat → Int32 → Int32 → Int32 → zS → Option (Int32 × zS)
  | 0, _, _, _, _ => none
  | n + 1, x1, x2, x3, σ => zbr ((27 : Int32) ≤ x3) (zlt (0 : Int32) (fun v13 => f_X11_seekFits_30 a0 FU x1 x2 v13 σ)) (zck (zok 100 (WM.2 (σ.2 a0 36)) x3) (zlt (zpi σ (σ.2 a0 36) x3.toNatClampNeg (0 : Int32)) (fun σ14 => zlt (x3 + (1 : Int32)) (fun v15 => f_X11_seekFits_9 a0 n x1 x2 v15 σ14))))
theorem t_X11_seekFits_9 (X : zX) (d : Nat) (hd : 7 ≤ d + 1) (a0 : Nat) (h0 : WM.2 a0 = (11, 0)) : ∀ (n : Nat) (x1 : Int32) (x2 : Int32) (x3 : Int32) (σ : zS), zK X WM (zrm (d + 1)) M_X11_seekFits (zZ X WM zeI) 9 [some (.ref a0), some (.int x1), some (.int x2), some (.int x3), none] [] σ (f_X11_seekFits_9 a0 n x1 x2 x3 σ) := by
  intro n
  induction n with
  | zero => intro x1 x2 x3 σ; exact z_none
  | succ n ih =>
    intro x1 x2 x3 σ
    rw [f_X11_seekFits_9]
    refine z_iload3 7 10 rfl rfl ?_
    refine z_bipush 8 12 rfl rfl cb_27 ?_
    refine z_icmp_ge 9 15 28 rfl rfl (by decide) ?_ ?_
    · refine z_iconst 17 29 rfl rfl ci_0 ?_
      refine z_istore3 18 30 rfl rfl rfl (fun v13 => ?_)
      exact t_X11_seekFits_30 X d hd a0 h0  FU x1 x2 v13 σ
    · refine z_aload0 10 16 rfl rfl ?_
      refine z_getR 11 19 36 rfl rfl zf_X11_62 rfl h0 ?_
      refine z_iload3 12 20 rfl rfl ?_
      refine z_iconst 13 21 rfl rfl ci_0 ?_
      refine z_iast 14 22 rfl rfl (fun σ14 => ?_)
      refine z_iinc3 15 25 rfl rfl ci_1 rfl (fun v15 => ?_)
      refine z_goto 16 9 rfl (by decide) ?_
      exact ih x1 x2 v15 σ14
def f_X11_seekFits (a0 : Nat) (x1 : Int32) (σ : zS) : Option (Int32 × zS) := zck (WM.2 a0 = (11, 0)) (zlt (-1 : Int32) (fun v16 => zlt (zpi σ a0 37 (0 : Int32)) (fun σ17 => zlt (0 : Int32) (fun v18 => f_X11_seekFits_9 a0 FU x1 v16 v18 σ17))))
theorem c_X11_seekFits (X : zX) (d : Nat) (hd : 7 ≤ d) (a0 : Nat) (x1 : Int32) (σ : zS) : ∀ (r : Int32) (σ' : zS), f_X11_seekFits a0 x1 σ = some (r, σ') → zCN X WM d M_X11_seekFits [.ref a0, .int x1] σ (zeI r, σ') := by
  obtain ⟨d, rfl⟩ : ∃ e, d = e + 1 := ⟨d - 1, by omega⟩
  refine z_entry [.ref a0, .int x1] (by decide +kernel) T_X11_seekFits (Nat.le_of_ble_eq_true rfl) ?_
  show zK X WM (zrm (d + 1)) M_X11_seekFits (zZ X WM zeI) 0 [some (.ref a0), some (.int x1), none, none, none] [] σ (f_X11_seekFits a0 x1 σ)
  unfold f_X11_seekFits
  refine z_ck (fun h0 => ?_)
  refine z_iconst 0 1 rfl rfl ci_m1 ?_
  refine z_istore2 1 2 rfl rfl rfl (fun v16 => ?_)
  refine z_aload0 2 3 rfl rfl ?_
  refine z_iconst 3 4 rfl rfl ci_0 ?_
  refine z_putI 4 7 37 rfl rfl zf_X11_417 rfl rfl rfl h0 (fun σ17 => ?_)
  refine z_iconst 5 8 rfl rfl ci_0 ?_
  refine z_istore3 6 9 rfl rfl rfl (fun v18 => ?_)
  exact t_X11_seekFits_9 X d hd a0 h0  FU x1 v16 v18 σ17
def f_X11_isHidden (a0 : Nat) (x1 : Int32) (σ : zS) : Option (Int32 × zS) := zck (WM.2 a0 = (11, 0)) (zbr ((σ.1 a0 14) = 0) (zck (zb (0 : Int32)) (some ((0 : Int32), σ))) (zck (zok 100 (WM.2 (σ.2 a0 15)) (6 : Int32)) (zbd (f_X11_in x1 (0 : Int32) ((σ.1 (σ.2 a0 15) (6 : Int32).toNatClampNeg) - (1 : Int32)) σ) (fun r1 σ2 => zbr (r1 = 0) (zck (zb (0 : Int32)) (some ((0 : Int32), σ2))) (zck (zb (1 : Int32)) (some ((1 : Int32), σ2)))))))
theorem c_X11_isHidden (X : zX) (d : Nat) (hd : 1 ≤ d) (a0 : Nat) (x1 : Int32) (σ : zS) : ∀ (r : Int32) (σ' : zS), f_X11_isHidden a0 x1 σ = some (r, σ') → zCN X WM d M_X11_isHidden [.ref a0, .int x1] σ (zeI r, σ') := by
  obtain ⟨d, rfl⟩ : ∃ e, d = e + 1 := ⟨d - 1, by omega⟩
  refine z_entry [.ref a0, .int x1] (by decide +kernel) T_X11_isHidden (Nat.le_of_ble_eq_true rfl) ?_
  show zK X WM (zrm (d + 1)) M_X11_isHidden (zZ X WM zeI) 0 [some (.ref a0), some (.int x1)] [] σ (f_X11_isHidden a0 x1 σ)
  unfold f_X11_isHidden
  refine z_ck (fun h0 => ?_)
  refine z_aload0 0 1 rfl rfl ?_
  refine z_getI 1 4 14 rfl rfl zf_X11_191 rfl h0 ?_
  refine z_if_eq 2 7 28 rfl rfl (by decide) ?_ ?_
  · refine z_iconst 15 29 rfl rfl ci_0 ?_
    exact z_zret 16 rfl rfl
  · refine z_iload1 3 8 rfl rfl ?_
    refine z_iconst 4 9 rfl rfl ci_0 ?_
    refine z_aload0 5 10 rfl rfl ?_
    refine z_getR 6 13 15 rfl rfl zf_X11_20 rfl h0 ?_
    refine z_bipush 7 15 rfl rfl cb_6 ?_
    refine z_iald 8 16 rfl rfl ?_
    refine z_iconst 9 17 rfl rfl ci_1 ?_
    refine z_isub 10 18 rfl rfl ?_
    refine z_cS3I 11 21 rfl rfl zl_X11_157 F_X11_in (zR_rm (by omega)) (c_X11_in X d x1 (0 : Int32) ((σ.1 (σ.2 a0 15) (6 : Int32).toNatClampNeg) - (1 : Int32)) σ) rfl (Nat.le_of_ble_eq_true rfl) (fun r1 σ2 => ?_)
    refine z_if_eq 12 24 28 rfl rfl (by decide) ?_ ?_
    · refine z_iconst 15 29 rfl rfl ci_0 ?_
      exact z_zret 16 rfl rfl
    · refine z_iconst 13 25 rfl rfl ci_1 ?_
      refine z_goto 14 29 rfl (by decide) ?_
      exact z_zret 16 rfl rfl
def f_X11_fits (a0 : Nat) (σ : zS) : Option (Int32 × zS) := zck (WM.2 a0 = (11, 0)) (zbd (f_X11_good a0 σ) (fun r1 σ2 => zbr ((σ2.1 a0 14) = 0) (zbd (f_X11_no a0 (1 : Int32) σ2) (fun r3 σ4 => some (r3, σ4))) (zbd (f_X11_seekFits a0 (-1 : Int32) σ2) (fun r5 σ6 => some ((σ6.1 a0 37), σ6)))))
theorem c_X11_fits (X : zX) (d : Nat) (hd : 8 ≤ d) (a0 : Nat) (σ : zS) : ∀ (r : Int32) (σ' : zS), f_X11_fits a0 σ = some (r, σ') → zCN X WM d M_X11_fits [.ref a0] σ (zeI r, σ') := by
  obtain ⟨d, rfl⟩ : ∃ e, d = e + 1 := ⟨d - 1, by omega⟩
  refine z_entry [.ref a0] (by decide +kernel) T_X11_fits (Nat.le_of_ble_eq_true rfl) ?_
  show zK X WM (zrm (d + 1)) M_X11_fits (zZ X WM zeI) 0 [some (.ref a0)] [] σ (f_X11_fits a0 σ)
  unfold f_X11_fits
  refine z_ck (fun h0 => ?_)
  refine z_aload0 0 1 rfl rfl ?_
  refine z_cV0V 1 4 rfl rfl zl_X11_178 F_X11_good (zR_rm (by omega)) (c_X11_good X d a0 σ) ⟨by decide, rfl, rfl⟩ h0 rfl (Nat.le_of_ble_eq_true rfl) (fun r1 σ2 => ?_)
  refine z_aload0 2 5 rfl rfl ?_
  refine z_getI 3 8 14 rfl rfl zf_X11_191 rfl h0 ?_
  refine z_if_ne 4 11 17 rfl rfl (by decide) ?_ ?_
  · refine z_aload0 5 12 rfl rfl ?_
    refine z_iconst 6 13 rfl rfl ci_1 ?_
    refine z_cV1I 7 16 rfl rfl zl_X11_181 F_X11_no (zR_rm (by omega)) (c_X11_no X d a0 (1 : Int32) σ2) ⟨by decide, rfl, rfl⟩ h0 rfl (Nat.le_of_ble_eq_true rfl) (fun r3 σ4 => ?_)
    exact z_iret 8 rfl rfl
  · refine z_aload0 9 18 rfl rfl ?_
    refine z_iconst 10 19 rfl rfl ci_m1 ?_
    refine z_cV1I 11 22 rfl rfl zl_X11_426 F_X11_seekFits (zR_rm (by omega)) (c_X11_seekFits X d (by omega) a0 (-1 : Int32) σ2) ⟨by decide, rfl, rfl⟩ h0 rfl (Nat.le_of_ble_eq_true rfl) (fun r5 σ6 => ?_)
    refine z_pop 12 23 rfl rfl rfl ?_
    refine z_aload0 13 24 rfl rfl ?_
    refine z_getI 14 27 37 rfl rfl zf_X11_417 rfl h0 ?_
    exact z_iret 15 rfl rfl
def f_X11_fitAt_16 (a0 : Nat)  (σ : zS) : Option (Int32 × zS) := zbd (f_X11_no a0 (1 : Int32) σ) (fun r1 σ2 => some (r1, σ2))
theorem t_X11_fitAt_16 (X : zX) (d : Nat) (hd : 8 ≤ d + 1) (a0 : Nat) (h0 : WM.2 a0 = (11, 0))  (σ : zS) : zK X WM (zrm (d + 1)) M_X11_fitAt (zZ X WM zeI) 16 [some (.ref a0), none, none, none] [] σ (f_X11_fitAt_16 a0 σ) := by
  unfold f_X11_fitAt_16
  refine z_aload0 8 17 rfl rfl ?_
  refine z_iconst 9 18 rfl rfl ci_1 ?_
  refine z_cV1I 10 21 rfl rfl zl_X11_181 F_X11_no (zR_rm (by omega)) (c_X11_no X d a0 (1 : Int32) σ) ⟨by decide, rfl, rfl⟩ h0 rfl (Nat.le_of_ble_eq_true rfl) (fun r1 σ2 => ?_)
  exact z_iret 11 rfl rfl
def f_X11_fitAt (a0 : Nat) (x1 : Int32) (x2 : Int32) (σ : zS) : Option (Int32 × zS) := zck (WM.2 a0 = (11, 0)) (zbd (f_X11_good a0 σ) (fun r3 σ4 => zbd (f_X11_isHidden a0 x2 σ4) (fun r5 σ6 => zbr (r5 = 0) (f_X11_fitAt_16 a0 σ6) (zbr (0 ≤ x1) (zbd (f_X11_seekFits a0 x1 σ6) (fun r7 σ8 => zlt r7 (fun v9 => zbr (0 ≤ v9) (zbd (f_X11_choiceOf a0 v9 x2 σ8) (fun r10 σ11 => zck (zok 100 (WM.2 (σ11.2 a0 15)) (4 : Int32)) (zbr (r10 = ((2 : Int32) * (σ11.1 (σ11.2 a0 15) (4 : Int32).toNatClampNeg))) (some ((-2 : Int32), σ11)) (zbd (f_X11_choiceOf a0 v9 x2 σ11) (fun r12 σ13 => some (r12, σ13)))))) (zbd (f_X11_no a0 (1 : Int32) σ8) (fun r14 σ15 => some (r14, σ15)))))) (f_X11_fitAt_16 a0 σ6)))))
theorem c_X11_fitAt (X : zX) (d : Nat) (hd : 8 ≤ d) (a0 : Nat) (x1 : Int32) (x2 : Int32) (σ : zS) : ∀ (r : Int32) (σ' : zS), f_X11_fitAt a0 x1 x2 σ = some (r, σ') → zCN X WM d M_X11_fitAt [.ref a0, .int x1, .int x2] σ (zeI r, σ') := by
  obtain ⟨d, rfl⟩ : ∃ e, d = e + 1 := ⟨d - 1, by omega⟩
  refine z_entry [.ref a0, .int x1, .int x2] (by decide +kernel) T_X11_fitAt (Nat.le_of_ble_eq_true rfl) ?_
  show zK X WM (zrm (d + 1)) M_X11_fitAt (zZ X WM zeI) 0 [some (.ref a0), some (.int x1), some (.int x2), none] [] σ (f_X11_fitAt a0 x1 x2 σ)
  unfold f_X11_fitAt
  refine z_ck (fun h0 => ?_)
  refine z_aload0 0 1 rfl rfl ?_
  refine z_cV0V 1 4 rfl rfl zl_X11_178 F_X11_good (zR_rm (by omega)) (c_X11_good X d a0 σ) ⟨by decide, rfl, rfl⟩ h0 rfl (Nat.le_of_ble_eq_true rfl) (fun r3 σ4 => ?_)
  refine z_aload0 2 5 rfl rfl ?_
  refine z_iload2 3 6 rfl rfl ?_
  refine z_cV1I 4 9 rfl rfl zl_X11_429 F_X11_isHidden (zR_rm (by omega)) (c_X11_isHidden X d (by omega) a0 x2 σ4) ⟨by decide, rfl, rfl⟩ h0 rfl (Nat.le_of_ble_eq_true rfl) (fun r5 σ6 => ?_)
  refine z_if_eq 5 12 16 rfl rfl (by decide) ?_ ?_
  · exact z_wk (zle_e (zle_n (zle_n (zle_e zle_0)))) (t_X11_fitAt_16 X d hd a0 h0  σ6)
  · refine z_iload1 6 13 rfl rfl ?_
    refine z_if_ge 7 16 22 rfl rfl (by decide) ?_ ?_
    · refine z_aload0 12 23 rfl rfl ?_
      refine z_iload1 13 24 rfl rfl ?_
      refine z_cV1I 14 27 rfl rfl zl_X11_426 F_X11_seekFits (zR_rm (by omega)) (c_X11_seekFits X d (by omega) a0 x1 σ6) ⟨by decide, rfl, rfl⟩ h0 rfl (Nat.le_of_ble_eq_true rfl) (fun r7 σ8 => ?_)
      refine z_istore3 15 28 rfl rfl rfl (fun v9 => ?_)
      refine z_iload3 16 29 rfl rfl ?_
      refine z_if_ge 17 32 38 rfl rfl (by decide) ?_ ?_
      · refine z_aload0 22 39 rfl rfl ?_
        refine z_iload3 23 40 rfl rfl ?_
        refine z_iload2 24 41 rfl rfl ?_
        refine z_cV2I 25 44 rfl rfl zl_X11_411 F_X11_choiceOf (zR_rm (by omega)) (c_X11_choiceOf X d (by omega) a0 v9 x2 σ8) ⟨by decide, rfl, rfl⟩ h0 rfl (Nat.le_of_ble_eq_true rfl) (fun r10 σ11 => ?_)
        refine z_iconst 26 45 rfl rfl ci_2 ?_
        refine z_aload0 27 46 rfl rfl ?_
        refine z_getR 28 49 15 rfl rfl zf_X11_20 rfl h0 ?_
        refine z_iconst 29 50 rfl rfl ci_4 ?_
        refine z_iald 30 51 rfl rfl ?_
        refine z_imul 31 52 rfl rfl ?_
        refine z_icmp_ne 32 55 60 rfl rfl (by decide) ?_ ?_
        · refine z_bipush 33 57 rfl rfl cb_m2 ?_
          refine z_goto 34 66 rfl (by decide) ?_
          exact z_iret 39 rfl rfl
        · refine z_aload0 35 61 rfl rfl ?_
          refine z_iload3 36 62 rfl rfl ?_
          refine z_iload2 37 63 rfl rfl ?_
          refine z_cV2I 38 66 rfl rfl zl_X11_411 F_X11_choiceOf (zR_rm (by omega)) (c_X11_choiceOf X d (by omega) a0 v9 x2 σ11) ⟨by decide, rfl, rfl⟩ h0 rfl (Nat.le_of_ble_eq_true rfl) (fun r12 σ13 => ?_)
          exact z_iret 39 rfl rfl
      · refine z_aload0 18 33 rfl rfl ?_
        refine z_iconst 19 34 rfl rfl ci_1 ?_
        refine z_cV1I 20 37 rfl rfl zl_X11_181 F_X11_no (zR_rm (by omega)) (c_X11_no X d a0 (1 : Int32) σ8) ⟨by decide, rfl, rfl⟩ h0 rfl (Nat.le_of_ble_eq_true rfl) (fun r14 σ15 => ?_)
        exact z_iret 21 rfl rfl
    · exact z_wk (zle_e (zle_n (zle_n (zle_e zle_0)))) (t_X11_fitAt_16 X d hd a0 h0  σ6)
def f_X11_says_20 (a0 : Nat)  (σ : zS) : Option (Int32 × zS) := zbd (f_X11_no a0 (1 : Int32) σ) (fun r1 σ2 => some (r1, σ2))
theorem t_X11_says_20 (X : zX) (d : Nat) (hd : 8 ≤ d + 1) (a0 : Nat) (h0 : WM.2 a0 = (11, 0))  (σ : zS) : zK X WM (zrm (d + 1)) M_X11_says (zZ X WM zeI) 20 [some (.ref a0), none, none] [] σ (f_X11_says_20 a0 σ) := by
  unfold f_X11_says_20
  refine z_aload0 10 21 rfl rfl ?_
  refine z_iconst 11 22 rfl rfl ci_1 ?_
  refine z_cV1I 12 25 rfl rfl zl_X11_181 F_X11_no (zR_rm (by omega)) (c_X11_no X d a0 (1 : Int32) σ) ⟨by decide, rfl, rfl⟩ h0 rfl (Nat.le_of_ble_eq_true rfl) (fun r1 σ2 => ?_)
  exact z_iret 13 rfl rfl
def f_X11_says (a0 : Nat) (x1 : Int32) (x2 : Int32) (σ : zS) : Option (Int32 × zS) := zck (WM.2 a0 = (11, 0)) (zbd (f_X11_good a0 σ) (fun r3 σ4 => zbd (f_X11_isHidden a0 x1 σ4) (fun r5 σ6 => zbr (r5 = 0) (f_X11_says_20 a0 σ6) (zbd (f_X11_isMatter a0 x2 σ6) (fun r7 σ8 => zbr (r7 = 0) (f_X11_says_20 a0 σ8) (zbd (f_X11_seekFits a0 (-1 : Int32) σ8) (fun r9 σ10 => zck (zok 100 (WM.2 (σ10.2 a0 36)) (((9 : Int32) * x1) + ((2 : Int32) * x2))) (zck (zok 100 (WM.2 (σ10.2 a0 36)) ((((9 : Int32) * x1) + ((2 : Int32) * x2)) + (1 : Int32))) (some (((σ10.1 (σ10.2 a0 36) (((9 : Int32) * x1) + ((2 : Int32) * x2)).toNatClampNeg) + (σ10.1 (σ10.2 a0 36) ((((9 : Int32) * x1) + ((2 : Int32) * x2)) + (1 : Int32)).toNatClampNeg)), σ10))))))))))
theorem c_X11_says (X : zX) (d : Nat) (hd : 8 ≤ d) (a0 : Nat) (x1 : Int32) (x2 : Int32) (σ : zS) : ∀ (r : Int32) (σ' : zS), f_X11_says a0 x1 x2 σ = some (r, σ') → zCN X WM d M_X11_says [.ref a0, .int x1, .int x2] σ (zeI r, σ') := by
  obtain ⟨d, rfl⟩ : ∃ e, d = e + 1 := ⟨d - 1, by omega⟩
  refine z_entry [.ref a0, .int x1, .int x2] (by decide +kernel) T_X11_says (Nat.le_of_ble_eq_true rfl) ?_
  show zK X WM (zrm (d + 1)) M_X11_says (zZ X WM zeI) 0 [some (.ref a0), some (.int x1), some (.int x2)] [] σ (f_X11_says a0 x1 x2 σ)
  unfold f_X11_says
  refine z_ck (fun h0 => ?_)
  refine z_aload0 0 1 rfl rfl ?_
  refine z_cV0V 1 4 rfl rfl zl_X11_178 F_X11_good (zR_rm (by omega)) (c_X11_good X d a0 σ) ⟨by decide, rfl, rfl⟩ h0 rfl (Nat.le_of_ble_eq_true rfl) (fun r3 σ4 => ?_)
  refine z_aload0 2 5 rfl rfl ?_
  refine z_iload1 3 6 rfl rfl ?_
  refine z_cV1I 4 9 rfl rfl zl_X11_429 F_X11_isHidden (zR_rm (by omega)) (c_X11_isHidden X d (by omega) a0 x1 σ4) ⟨by decide, rfl, rfl⟩ h0 rfl (Nat.le_of_ble_eq_true rfl) (fun r5 σ6 => ?_)
  refine z_if_eq 5 12 20 rfl rfl (by decide) ?_ ?_
  · exact z_wk (zle_e (zle_n (zle_n zle_0))) (t_X11_says_20 X d hd a0 h0  σ6)
  · refine z_aload0 6 13 rfl rfl ?_
    refine z_iload2 7 14 rfl rfl ?_
    refine z_cV1I 8 17 rfl rfl zl_X11_336 F_X11_isMatter (zR_rm (by omega)) (c_X11_isMatter X d (by omega) a0 x2 σ6) ⟨by decide, rfl, rfl⟩ h0 rfl (Nat.le_of_ble_eq_true rfl) (fun r7 σ8 => ?_)
    refine z_if_ne 9 20 26 rfl rfl (by decide) ?_ ?_
    · exact z_wk (zle_e (zle_n (zle_n zle_0))) (t_X11_says_20 X d hd a0 h0  σ8)
    · refine z_aload0 14 27 rfl rfl ?_
      refine z_iconst 15 28 rfl rfl ci_m1 ?_
      refine z_cV1I 16 31 rfl rfl zl_X11_426 F_X11_seekFits (zR_rm (by omega)) (c_X11_seekFits X d (by omega) a0 (-1 : Int32) σ8) ⟨by decide, rfl, rfl⟩ h0 rfl (Nat.le_of_ble_eq_true rfl) (fun r9 σ10 => ?_)
      refine z_pop 17 32 rfl rfl rfl ?_
      refine z_aload0 18 33 rfl rfl ?_
      refine z_getR 19 36 36 rfl rfl zf_X11_62 rfl h0 ?_
      refine z_bipush 20 38 rfl rfl cb_9 ?_
      refine z_iload1 21 39 rfl rfl ?_
      refine z_imul 22 40 rfl rfl ?_
      refine z_iconst 23 41 rfl rfl ci_2 ?_
      refine z_iload2 24 42 rfl rfl ?_
      refine z_imul 25 43 rfl rfl ?_
      refine z_iadd 26 44 rfl rfl ?_
      refine z_iald 27 45 rfl rfl ?_
      refine z_aload0 28 46 rfl rfl ?_
      refine z_getR 29 49 36 rfl rfl zf_X11_62 rfl h0 ?_
      refine z_bipush 30 51 rfl rfl cb_9 ?_
      refine z_iload1 31 52 rfl rfl ?_
      refine z_imul 32 53 rfl rfl ?_
      refine z_iconst 33 54 rfl rfl ci_2 ?_
      refine z_iload2 34 55 rfl rfl ?_
      refine z_imul 35 56 rfl rfl ?_
      refine z_iadd 36 57 rfl rfl ?_
      refine z_iconst 37 58 rfl rfl ci_1 ?_
      refine z_iadd 38 59 rfl rfl ?_
      refine z_iald 39 60 rfl rfl ?_
      refine z_iadd 40 61 rfl rfl ?_
      exact z_iret 41 rfl rfl
def f_X11_leavesOf_42 (a0 : Nat) (H4 : Int32 → Int32 → Int32 → zS → Option (Int32 × zS)) (x1 : Int32) (x3 : Int32) (s0 : Int32) (σ : zS) : Option (Int32 × zS) := zlt s0 (fun v1 => zlt (x3 + (1 : Int32)) (fun v2 => H4 x1 v1 v2 σ))
theorem t_X11_leavesOf_42 (X : zX) (d : Nat) (hd : 1 ≤ d + 1) (a0 : Nat) (h0 : WM.2 a0 = (11, 0)) (H4 : Int32 → Int32 → Int32 → zS → Option (Int32 × zS)) (hH4 : ∀ (x1 : Int32) (x2 : Int32) (x3 : Int32) (σ : zS), zK X WM (zrm (d + 1)) M_X11_leavesOf (zZ X WM zeI) 4 [some (.ref a0), some (.int x1), some (.int x2), some (.int x3)] [] σ (H4 x1 x2 x3 σ)) (x1 : Int32) (x3 : Int32) (s0 : Int32) (σ : zS) : zK X WM (zrm (d + 1)) M_X11_leavesOf (zZ X WM zeI) 42 [some (.ref a0), some (.int x1), none, some (.int x3)] [.int s0] σ (f_X11_leavesOf_42 a0 H4 x1 x3 s0 σ) := by
  unfold f_X11_leavesOf_42
  refine z_istore2 28 43 rfl rfl rfl (fun v1 => ?_)
  refine z_iinc3 29 46 rfl rfl ci_1 rfl (fun v2 => ?_)
  refine z_goto 30 4 rfl (by decide) ?_
  exact hH4 x1 v1 v2 σ
def f_X11_leavesOf_4 (a0 : Nat) : Nat → Int32 → Int32 → Int32 → zS → Option (Int32 × zS)
  | 0, _, _, _, _ => none
  | n + 1, x1, x2, x3, σ => zbd (f_X11_choicesOf a0 σ) (fun r3 σ4 => zbr (r3 ≤ x3) (some (x2, σ4)) (zck (zok 100 (WM.2 (σ4.2 a0 36)) (((9 : Int32) * x1) + x3)) (zbr ((σ4.1 (σ4.2 a0 36) (((9 : Int32) * x1) + x3).toNatClampNeg) ≤ x2) (f_X11_leavesOf_42 a0 (f_X11_leavesOf_4 a0 n) x1 x3 x2 σ4) (zck (zok 100 (WM.2 (σ4.2 a0 36)) (((9 : Int32) * x1) + x3)) (f_X11_leavesOf_42 a0 (f_X11_leavesOf_4 a0 n) x1 x3 (σ4.1 (σ4.2 a0 36) (((9 : Int32) * x1) + x3).toNatClampNeg) σ4)))))
theorem t_X11_leavesOf_4 (X : zX) (d : Nat) (hd : 1 ≤ d + 1) (a0 : Nat) (h0 : WM.2 a0 = (11, 0)) : ∀ (n : Nat) (x1 : Int32) (x2 : Int32) (x3 : Int32) (σ : zS), zK X WM (zrm (d + 1)) M_X11_leavesOf (zZ X WM zeI) 4 [some (.ref a0), some (.int x1), some (.int x2), some (.int x3)] [] σ (f_X11_leavesOf_4 a0 n x1 x2 x3 σ) := by
  intro n
  induction n with
  | zero => intro x1 x2 x3 σ; exact z_none
  | succ n ih =>
    intro x1 x2 x3 σ
    rw [f_X11_leavesOf_4]
    refine z_iload3 4 5 rfl rfl ?_
    refine z_aload0 5 6 rfl rfl ?_
    refine z_cV0I 6 9 rfl rfl zl_X11_408 F_X11_choicesOf (zR_rm (by omega)) (c_X11_choicesOf X d a0 σ) ⟨by decide, rfl, rfl⟩ h0 rfl (Nat.le_of_ble_eq_true rfl) (fun r3 σ4 => ?_)
    refine z_icmp_ge 7 12 49 rfl rfl (by decide) ?_ ?_
    · refine z_iload2 31 50 rfl rfl ?_
      exact z_iret 32 rfl rfl
    · refine z_aload0 8 13 rfl rfl ?_
      refine z_getR 9 16 36 rfl rfl zf_X11_62 rfl h0 ?_
      refine z_bipush 10 18 rfl rfl cb_9 ?_
      refine z_iload1 11 19 rfl rfl ?_
      refine z_imul 12 20 rfl rfl ?_
      refine z_iload3 13 21 rfl rfl ?_
      refine z_iadd 14 22 rfl rfl ?_
      refine z_iald 15 23 rfl rfl ?_
      refine z_iload2 16 24 rfl rfl ?_
      refine z_icmp_le 17 27 41 rfl rfl (by decide) ?_ ?_
      · refine z_iload2 27 42 rfl rfl ?_
        exact z_wk (zle_e (zle_e (zle_n (zle_e zle_0)))) (t_X11_leavesOf_42 X d hd a0 h0 (f_X11_leavesOf_4 a0 n) ih x1 x3 x2 σ4)
      · refine z_aload0 18 28 rfl rfl ?_
        refine z_getR 19 31 36 rfl rfl zf_X11_62 rfl h0 ?_
        refine z_bipush 20 33 rfl rfl cb_9 ?_
        refine z_iload1 21 34 rfl rfl ?_
        refine z_imul 22 35 rfl rfl ?_
        refine z_iload3 23 36 rfl rfl ?_
        refine z_iadd 24 37 rfl rfl ?_
        refine z_iald 25 38 rfl rfl ?_
        refine z_goto 26 42 rfl (by decide) ?_
        exact z_wk (zle_e (zle_e (zle_n (zle_e zle_0)))) (t_X11_leavesOf_42 X d hd a0 h0 (f_X11_leavesOf_4 a0 n) ih x1 x3 (σ4.1 (σ4.2 a0 36) (((9 : Int32) * x1) + x3).toNatClampNeg) σ4)
def f_X11_leavesOf (a0 : Nat) (x1 : Int32) (σ : zS) : Option (Int32 × zS) := zck (WM.2 a0 = (11, 0)) (zlt (0 : Int32) (fun v5 => zlt (0 : Int32) (fun v6 => f_X11_leavesOf_4 a0 FU x1 v5 v6 σ)))
theorem c_X11_leavesOf (X : zX) (d : Nat) (hd : 1 ≤ d) (a0 : Nat) (x1 : Int32) (σ : zS) : ∀ (r : Int32) (σ' : zS), f_X11_leavesOf a0 x1 σ = some (r, σ') → zCN X WM d M_X11_leavesOf [.ref a0, .int x1] σ (zeI r, σ') := by
  obtain ⟨d, rfl⟩ : ∃ e, d = e + 1 := ⟨d - 1, by omega⟩
  refine z_entry [.ref a0, .int x1] (by decide +kernel) T_X11_leavesOf (Nat.le_of_ble_eq_true rfl) ?_
  show zK X WM (zrm (d + 1)) M_X11_leavesOf (zZ X WM zeI) 0 [some (.ref a0), some (.int x1), none, none] [] σ (f_X11_leavesOf a0 x1 σ)
  unfold f_X11_leavesOf
  refine z_ck (fun h0 => ?_)
  refine z_iconst 0 1 rfl rfl ci_0 ?_
  refine z_istore2 1 2 rfl rfl rfl (fun v5 => ?_)
  refine z_iconst 2 3 rfl rfl ci_0 ?_
  refine z_istore3 3 4 rfl rfl rfl (fun v6 => ?_)
  exact t_X11_leavesOf_4 X d hd a0 h0  FU x1 v5 v6 σ
def f_X11_askOf_48 (a0 : Nat) (H11 : Int32 → Int32 → zS → Option (Int32 × zS)) (x1 : Int32) (x2 : Int32) (σ : zS) : Option (Int32 × zS) := zlt (x2 + (1 : Int32)) (fun v1 => H11 x1 v1 σ)
theorem t_X11_askOf_48 (X : zX) (d : Nat) (hd : 8 ≤ d + 1) (a0 : Nat) (h0 : WM.2 a0 = (11, 0)) (H11 : Int32 → Int32 → zS → Option (Int32 × zS)) (hH11 : ∀ (x1 : Int32) (x2 : Int32) (σ : zS), zK X WM (zrm (d + 1)) M_X11_askOf (zZ X WM zeI) 11 [some (.ref a0), some (.int x1), some (.int x2)] [] σ (H11 x1 x2 σ)) (x1 : Int32) (x2 : Int32) (σ : zS) : zK X WM (zrm (d + 1)) M_X11_askOf (zZ X WM zeI) 48 [some (.ref a0), some (.int x1), some (.int x2)] [] σ (f_X11_askOf_48 a0 H11 x1 x2 σ) := by
  unfold f_X11_askOf_48
  refine z_iinc2 28 51 rfl rfl ci_1 rfl (fun v1 => ?_)
  refine z_goto 29 11 rfl (by decide) ?_
  exact hH11 x1 v1 σ
def f_X11_askOf_46 (a0 : Nat) (H11 : Int32 → Int32 → zS → Option (Int32 × zS)) (x2 : Int32) (σ : zS) : Option (Int32 × zS) := zlt x2 (fun v2 => f_X11_askOf_48 a0 H11 v2 x2 σ)
theorem t_X11_askOf_46 (X : zX) (d : Nat) (hd : 8 ≤ d + 1) (a0 : Nat) (h0 : WM.2 a0 = (11, 0)) (H11 : Int32 → Int32 → zS → Option (Int32 × zS)) (hH11 : ∀ (x1 : Int32) (x2 : Int32) (σ : zS), zK X WM (zrm (d + 1)) M_X11_askOf (zZ X WM zeI) 11 [some (.ref a0), some (.int x1), some (.int x2)] [] σ (H11 x1 x2 σ)) (x2 : Int32) (σ : zS) : zK X WM (zrm (d + 1)) M_X11_askOf (zZ X WM zeI) 46 [some (.ref a0), none, some (.int x2)] [] σ (f_X11_askOf_46 a0 H11 x2 σ) := by
  unfold f_X11_askOf_46
  refine z_iload2 26 47 rfl rfl ?_
  refine z_istore1 27 48 rfl rfl rfl (fun v2 => ?_)
  exact t_X11_askOf_48 X d hd a0 h0 H11 hH11 v2 x2 σ
def f_X11_askOf_11 (a0 : Nat) : Nat → Int32 → Int32 → zS → Option (Int32 × zS)
  | 0, _, _, _ => none
  | n + 1, x1, x2, σ => zck (zok 100 (WM.2 (σ.2 a0 15)) (6 : Int32)) (zbr ((σ.1 (σ.2 a0 15) (6 : Int32).toNatClampNeg) ≤ x2) (some (x1, σ)) (zbr ((σ.1 a0 37) ≤ 0) (some (x1, σ)) (zbr (x1 < 0) (f_X11_askOf_46 a0 (f_X11_askOf_11 a0 n) x2 σ) (zbd (f_X11_leavesOf a0 x2 σ) (fun r3 σ4 => zbd (f_X11_leavesOf a0 x1 σ4) (fun r5 σ6 => zbr (r5 ≤ r3) (f_X11_askOf_48 a0 (f_X11_askOf_11 a0 n) x1 x2 σ6) (f_X11_askOf_46 a0 (f_X11_askOf_11 a0 n) x2 σ6)))))))
theorem t_X11_askOf_11 (X : zX) (d : Nat) (hd : 8 ≤ d + 1) (a0 : Nat) (h0 : WM.2 a0 = (11, 0)) : ∀ (n : Nat) (x1 : Int32) (x2 : Int32) (σ : zS), zK X WM (zrm (d + 1)) M_X11_askOf (zZ X WM zeI) 11 [some (.ref a0), some (.int x1), some (.int x2)] [] σ (f_X11_askOf_11 a0 n x1 x2 σ) := by
  intro n
  induction n with
  | zero => intro x1 x2 σ; exact z_none
  | succ n ih =>
    intro x1 x2 σ
    rw [f_X11_askOf_11]
    refine z_iload2 8 12 rfl rfl ?_
    refine z_aload0 9 13 rfl rfl ?_
    refine z_getR 10 16 15 rfl rfl zf_X11_20 rfl h0 ?_
    refine z_bipush 11 18 rfl rfl cb_6 ?_
    refine z_iald 12 19 rfl rfl ?_
    refine z_icmp_ge 13 22 54 rfl rfl (by decide) ?_ ?_
    · refine z_iload1 30 55 rfl rfl ?_
      exact z_iret 31 rfl rfl
    · refine z_aload0 14 23 rfl rfl ?_
      refine z_getI 15 26 37 rfl rfl zf_X11_417 rfl h0 ?_
      refine z_if_le 16 29 54 rfl rfl (by decide) ?_ ?_
      · refine z_iload1 30 55 rfl rfl ?_
        exact z_iret 31 rfl rfl
      · refine z_iload1 17 30 rfl rfl ?_
        refine z_if_lt 18 33 46 rfl rfl (by decide) ?_ ?_
        · exact z_wk (zle_e (zle_n (zle_e zle_0))) (t_X11_askOf_46 X d hd a0 h0 (f_X11_askOf_11 a0 n) ih x2 σ)
        · refine z_aload0 19 34 rfl rfl ?_
          refine z_iload2 20 35 rfl rfl ?_
          refine z_cV1I 21 38 rfl rfl zl_X11_432 F_X11_leavesOf (zR_rm (by omega)) (c_X11_leavesOf X d (by omega) a0 x2 σ) ⟨by decide, rfl, rfl⟩ h0 rfl (Nat.le_of_ble_eq_true rfl) (fun r3 σ4 => ?_)
          refine z_aload0 22 39 rfl rfl ?_
          refine z_iload1 23 40 rfl rfl ?_
          refine z_cV1I 24 43 rfl rfl zl_X11_432 F_X11_leavesOf (zR_rm (by omega)) (c_X11_leavesOf X d (by omega) a0 x1 σ4) ⟨by decide, rfl, rfl⟩ h0 rfl (Nat.le_of_ble_eq_true rfl) (fun r5 σ6 => ?_)
          refine z_icmp_ge 25 46 48 rfl rfl (by decide) ?_ ?_
          · exact t_X11_askOf_48 X d hd a0 h0 (f_X11_askOf_11 a0 n) ih x1 x2 σ6
          · exact z_wk (zle_e (zle_n (zle_e zle_0))) (t_X11_askOf_46 X d hd a0 h0 (f_X11_askOf_11 a0 n) ih x2 σ6)
def f_X11_askOf (a0 : Nat) (σ : zS) : Option (Int32 × zS) := zck (WM.2 a0 = (11, 0)) (zbd (f_X11_seekFits a0 (-1 : Int32) σ) (fun r7 σ8 => zlt (-2 : Int32) (fun v9 => zlt (0 : Int32) (fun v10 => f_X11_askOf_11 a0 FU v9 v10 σ8))))
theorem c_X11_askOf (X : zX) (d : Nat) (hd : 8 ≤ d) (a0 : Nat) (σ : zS) : ∀ (r : Int32) (σ' : zS), f_X11_askOf a0 σ = some (r, σ') → zCN X WM d M_X11_askOf [.ref a0] σ (zeI r, σ') := by
  obtain ⟨d, rfl⟩ : ∃ e, d = e + 1 := ⟨d - 1, by omega⟩
  refine z_entry [.ref a0] (by decide +kernel) T_X11_askOf (Nat.le_of_ble_eq_true rfl) ?_
  show zK X WM (zrm (d + 1)) M_X11_askOf (zZ X WM zeI) 0 [some (.ref a0), none, none] [] σ (f_X11_askOf a0 σ)
  unfold f_X11_askOf
  refine z_ck (fun h0 => ?_)
  refine z_aload0 0 1 rfl rfl ?_
  refine z_iconst 1 2 rfl rfl ci_m1 ?_
  refine z_cV1I 2 5 rfl rfl zl_X11_426 F_X11_seekFits (zR_rm (by omega)) (c_X11_seekFits X d (by omega) a0 (-1 : Int32) σ) ⟨by decide, rfl, rfl⟩ h0 rfl (Nat.le_of_ble_eq_true rfl) (fun r7 σ8 => ?_)
  refine z_pop 3 6 rfl rfl rfl ?_
  refine z_bipush 4 8 rfl rfl cb_m2 ?_
  refine z_istore1 5 9 rfl rfl rfl (fun v9 => ?_)
  refine z_iconst 6 10 rfl rfl ci_0 ?_
  refine z_istore2 7 11 rfl rfl rfl (fun v10 => ?_)
  exact t_X11_askOf_11 X d hd a0 h0  FU v9 v10 σ8
def f_X11_ask (a0 : Nat) (σ : zS) : Option (Int32 × zS) := zck (WM.2 a0 = (11, 0)) (zbd (f_X11_good a0 σ) (fun r1 σ2 => zbr ((σ2.1 a0 14) = 0) (zbd (f_X11_no a0 (1 : Int32) σ2) (fun r3 σ4 => some (r3, σ4))) (zbd (f_X11_askOf a0 σ2) (fun r5 σ6 => some (r5, σ6)))))
theorem c_X11_ask (X : zX) (d : Nat) (hd : 9 ≤ d) (a0 : Nat) (σ : zS) : ∀ (r : Int32) (σ' : zS), f_X11_ask a0 σ = some (r, σ') → zCN X WM d M_X11_ask [.ref a0] σ (zeI r, σ') := by
  obtain ⟨d, rfl⟩ : ∃ e, d = e + 1 := ⟨d - 1, by omega⟩
  refine z_entry [.ref a0] (by decide +kernel) T_X11_ask (Nat.le_of_ble_eq_true rfl) ?_
  show zK X WM (zrm (d + 1)) M_X11_ask (zZ X WM zeI) 0 [some (.ref a0)] [] σ (f_X11_ask a0 σ)
  unfold f_X11_ask
  refine z_ck (fun h0 => ?_)
  refine z_aload0 0 1 rfl rfl ?_
  refine z_cV0V 1 4 rfl rfl zl_X11_178 F_X11_good (zR_rm (by omega)) (c_X11_good X d a0 σ) ⟨by decide, rfl, rfl⟩ h0 rfl (Nat.le_of_ble_eq_true rfl) (fun r1 σ2 => ?_)
  refine z_aload0 2 5 rfl rfl ?_
  refine z_getI 3 8 14 rfl rfl zf_X11_191 rfl h0 ?_
  refine z_if_eq 4 11 18 rfl rfl (by decide) ?_ ?_
  · refine z_aload0 8 19 rfl rfl ?_
    refine z_iconst 9 20 rfl rfl ci_1 ?_
    refine z_cV1I 10 23 rfl rfl zl_X11_181 F_X11_no (zR_rm (by omega)) (c_X11_no X d a0 (1 : Int32) σ2) ⟨by decide, rfl, rfl⟩ h0 rfl (Nat.le_of_ble_eq_true rfl) (fun r3 σ4 => ?_)
    exact z_iret 11 rfl rfl
  · refine z_aload0 5 12 rfl rfl ?_
    refine z_cV0I 6 15 rfl rfl zl_X11_435 F_X11_askOf (zR_rm (by omega)) (c_X11_askOf X d (by omega) a0 σ2) ⟨by decide, rfl, rfl⟩ h0 rfl (Nat.le_of_ble_eq_true rfl) (fun r5 σ6 => ?_)
    refine z_goto 7 23 rfl (by decide) ?_
    exact z_iret 11 rfl rfl
def f_X11_askLeaves (a0 : Nat) (σ : zS) : Option (Int32 × zS) := zck (WM.2 a0 = (11, 0)) (zbd (f_X11_good a0 σ) (fun r1 σ2 => zbr ((σ2.1 a0 14) = 0) (zbd (f_X11_no a0 (1 : Int32) σ2) (fun r3 σ4 => some (r3, σ4))) (zbd (f_X11_askOf a0 σ2) (fun r5 σ6 => zlt r5 (fun v7 => zbr (0 ≤ v7) (zbd (f_X11_leavesOf a0 v7 σ6) (fun r8 σ9 => some (r8, σ9))) (some ((-2 : Int32), σ6)))))))
theorem c_X11_askLeaves (X : zX) (d : Nat) (hd : 9 ≤ d) (a0 : Nat) (σ : zS) : ∀ (r : Int32) (σ' : zS), f_X11_askLeaves a0 σ = some (r, σ') → zCN X WM d M_X11_askLeaves [.ref a0] σ (zeI r, σ') := by
  obtain ⟨d, rfl⟩ : ∃ e, d = e + 1 := ⟨d - 1, by omega⟩
  refine z_entry [.ref a0] (by decide +kernel) T_X11_askLeaves (Nat.le_of_ble_eq_true rfl) ?_
  show zK X WM (zrm (d + 1)) M_X11_askLeaves (zZ X WM zeI) 0 [some (.ref a0), none] [] σ (f_X11_askLeaves a0 σ)
  unfold f_X11_askLeaves
  refine z_ck (fun h0 => ?_)
  refine z_aload0 0 1 rfl rfl ?_
  refine z_cV0V 1 4 rfl rfl zl_X11_178 F_X11_good (zR_rm (by omega)) (c_X11_good X d a0 σ) ⟨by decide, rfl, rfl⟩ h0 rfl (Nat.le_of_ble_eq_true rfl) (fun r1 σ2 => ?_)
  refine z_aload0 2 5 rfl rfl ?_
  refine z_getI 3 8 14 rfl rfl zf_X11_191 rfl h0 ?_
  refine z_if_ne 4 11 17 rfl rfl (by decide) ?_ ?_
  · refine z_aload0 5 12 rfl rfl ?_
    refine z_iconst 6 13 rfl rfl ci_1 ?_
    refine z_cV1I 7 16 rfl rfl zl_X11_181 F_X11_no (zR_rm (by omega)) (c_X11_no X d a0 (1 : Int32) σ2) ⟨by decide, rfl, rfl⟩ h0 rfl (Nat.le_of_ble_eq_true rfl) (fun r3 σ4 => ?_)
    exact z_iret 8 rfl rfl
  · refine z_aload0 9 18 rfl rfl ?_
    refine z_cV0I 10 21 rfl rfl zl_X11_435 F_X11_askOf (zR_rm (by omega)) (c_X11_askOf X d (by omega) a0 σ2) ⟨by decide, rfl, rfl⟩ h0 rfl (Nat.le_of_ble_eq_true rfl) (fun r5 σ6 => ?_)
    refine z_istore1 11 22 rfl rfl rfl (fun v7 => ?_)
    refine z_iload1 12 23 rfl rfl ?_
    refine z_if_ge 13 26 31 rfl rfl (by decide) ?_ ?_
    · refine z_aload0 16 32 rfl rfl ?_
      refine z_iload1 17 33 rfl rfl ?_
      refine z_cV1I 18 36 rfl rfl zl_X11_432 F_X11_leavesOf (zR_rm (by omega)) (c_X11_leavesOf X d (by omega) a0 v7 σ6) ⟨by decide, rfl, rfl⟩ h0 rfl (Nat.le_of_ble_eq_true rfl) (fun r8 σ9 => ?_)
      exact z_iret 19 rfl rfl
    · refine z_bipush 14 28 rfl rfl cb_m2 ?_
      refine z_goto 15 36 rfl (by decide) ?_
      exact z_iret 19 rfl rfl
def f_X11_judge (a0 : Nat) (σ : zS) : Option (Int32 × zS) := zck (WM.2 a0 = (11, 0)) (zbd (f_X11_good a0 σ) (fun r1 σ2 => zbr ((σ2.1 a0 14) = 0) (zbd (f_X11_no a0 (1 : Int32) σ2) (fun r3 σ4 => some (r3, σ4))) (zbd (f_X11_wrongBy a0 (-1 : Int32) σ2) (fun r5 σ6 => some (r5, σ6)))))
theorem c_X11_judge (X : zX) (d : Nat) (hd : 7 ≤ d) (a0 : Nat) (σ : zS) : ∀ (r : Int32) (σ' : zS), f_X11_judge a0 σ = some (r, σ') → zCN X WM d M_X11_judge [.ref a0] σ (zeI r, σ') := by
  obtain ⟨d, rfl⟩ : ∃ e, d = e + 1 := ⟨d - 1, by omega⟩
  refine z_entry [.ref a0] (by decide +kernel) T_X11_judge (Nat.le_of_ble_eq_true rfl) ?_
  show zK X WM (zrm (d + 1)) M_X11_judge (zZ X WM zeI) 0 [some (.ref a0)] [] σ (f_X11_judge a0 σ)
  unfold f_X11_judge
  refine z_ck (fun h0 => ?_)
  refine z_aload0 0 1 rfl rfl ?_
  refine z_cV0V 1 4 rfl rfl zl_X11_178 F_X11_good (zR_rm (by omega)) (c_X11_good X d a0 σ) ⟨by decide, rfl, rfl⟩ h0 rfl (Nat.le_of_ble_eq_true rfl) (fun r1 σ2 => ?_)
  refine z_aload0 2 5 rfl rfl ?_
  refine z_getI 3 8 14 rfl rfl zf_X11_191 rfl h0 ?_
  refine z_if_eq 4 11 19 rfl rfl (by decide) ?_ ?_
  · refine z_aload0 9 20 rfl rfl ?_
    refine z_iconst 10 21 rfl rfl ci_1 ?_
    refine z_cV1I 11 24 rfl rfl zl_X11_181 F_X11_no (zR_rm (by omega)) (c_X11_no X d a0 (1 : Int32) σ2) ⟨by decide, rfl, rfl⟩ h0 rfl (Nat.le_of_ble_eq_true rfl) (fun r3 σ4 => ?_)
    exact z_iret 12 rfl rfl
  · refine z_aload0 5 12 rfl rfl ?_
    refine z_iconst 6 13 rfl rfl ci_m1 ?_
    refine z_cV1I 7 16 rfl rfl zl_X11_423 F_X11_wrongBy (zR_rm (by omega)) (c_X11_wrongBy X d (by omega) a0 (-1 : Int32) σ2) ⟨by decide, rfl, rfl⟩ h0 rfl (Nat.le_of_ble_eq_true rfl) (fun r5 σ6 => ?_)
    refine z_goto 8 24 rfl (by decide) ?_
    exact z_iret 12 rfl rfl
def f_X11_footOf (x0 : Int32) (x1 : Int32) (x2 : Int32) (σ : zS) : Option (Int32 × zS) := zbr (x1 = 0) (zbr (x2 = 0) (some ((3 : Int32), σ)) (some ((0 : Int32), σ))) (zbr (x2 = 0) (some (((4 : Int32) - x0), σ)) (some ((1 : Int32), σ)))
theorem c_X11_footOf (X : zX) (d : Nat) (x0 : Int32) (x1 : Int32) (x2 : Int32) (σ : zS) : ∀ (r : Int32) (σ' : zS), f_X11_footOf x0 x1 x2 σ = some (r, σ') → zCN X WM d M_X11_footOf [.int x0, .int x1, .int x2] σ (zeI r, σ') := by
  refine z_entry [.int x0, .int x1, .int x2] (by decide +kernel) T_X11_footOf (Nat.le_of_ble_eq_true rfl) ?_
  show zK X WM (zrm d) M_X11_footOf (zZ X WM zeI) 0 [some (.int x0), some (.int x1), some (.int x2)] [] σ (f_X11_footOf x0 x1 x2 σ)
  unfold f_X11_footOf
  refine z_iload1 0 1 rfl rfl ?_
  refine z_if_eq 1 4 18 rfl rfl (by decide) ?_ ?_
  · refine z_iload2 10 19 rfl rfl ?_
    refine z_if_eq 11 22 26 rfl rfl (by decide) ?_ ?_
    · refine z_iconst 14 27 rfl rfl ci_3 ?_
      exact z_iret 15 rfl rfl
    · refine z_iconst 12 23 rfl rfl ci_0 ?_
      refine z_goto 13 27 rfl (by decide) ?_
      exact z_iret 15 rfl rfl
  · refine z_iload2 2 5 rfl rfl ?_
    refine z_if_eq 3 8 12 rfl rfl (by decide) ?_ ?_
    · refine z_iconst 6 13 rfl rfl ci_4 ?_
      refine z_iload0 7 14 rfl rfl ?_
      refine z_isub 8 15 rfl rfl ?_
      refine z_goto 9 27 rfl (by decide) ?_
      exact z_iret 15 rfl rfl
    · refine z_iconst 4 9 rfl rfl ci_1 ?_
      refine z_goto 5 27 rfl (by decide) ?_
      exact z_iret 15 rfl rfl
def f_X11_foot (a0 : Nat) (x1 : Int32) (x2 : Int32) (x3 : Int32) (x4 : Int32) (σ : zS) : Option (Int32 × zS) := zck (WM.2 a0 = (11, 0)) (zbd (f_X11_good a0 σ) (fun r1 σ2 => zbd (f_X11_in x1 (0 : Int32) (9 : Int32) σ2) (fun r3 σ4 => zbd (f_X11_why a0 (σ2.1 a0 14) r3 σ4) (fun r5 σ6 => zlt r5 (fun v7 => zbr (v7 = 0) (zbr (x4 = 0) (zbd (f_X11_footOf x1 x2 x3 σ6) (fun r8 σ9 => some (r8, σ9))) (zbd (f_X11_footOf x1 x3 x2 σ6) (fun r10 σ11 => some (r10, σ11)))) (zlt (zpi σ6 a0 11 v7) (fun σ12 => some ((-100 : Int32), σ12))))))))
theorem c_X11_foot (X : zX) (d : Nat) (hd : 1 ≤ d) (a0 : Nat) (x1 : Int32) (x2 : Int32) (x3 : Int32) (x4 : Int32) (σ : zS) : ∀ (r : Int32) (σ' : zS), f_X11_foot a0 x1 x2 x3 x4 σ = some (r, σ') → zCN X WM d M_X11_foot [.ref a0, .int x1, .int x2, .int x3, .int x4] σ (zeI r, σ') := by
  obtain ⟨d, rfl⟩ : ∃ e, d = e + 1 := ⟨d - 1, by omega⟩
  refine z_entry [.ref a0, .int x1, .int x2, .int x3, .int x4] (by decide +kernel) T_X11_foot (Nat.le_of_ble_eq_true rfl) ?_
  show zK X WM (zrm (d + 1)) M_X11_foot (zZ X WM zeI) 0 [some (.ref a0), some (.int x1), some (.int x2), some (.int x3), some (.int x4), none] [] σ (f_X11_foot a0 x1 x2 x3 x4 σ)
  unfold f_X11_foot
  refine z_ck (fun h0 => ?_)
  refine z_aload0 0 1 rfl rfl ?_
  refine z_cV0V 1 4 rfl rfl zl_X11_178 F_X11_good (zR_rm (by omega)) (c_X11_good X d a0 σ) ⟨by decide, rfl, rfl⟩ h0 rfl (Nat.le_of_ble_eq_true rfl) (fun r1 σ2 => ?_)
  refine z_aload0 2 5 rfl rfl ?_
  refine z_aload0 3 6 rfl rfl ?_
  refine z_getI 4 9 14 rfl rfl zf_X11_191 rfl h0 ?_
  refine z_iload1 5 10 rfl rfl ?_
  refine z_iconst 6 11 rfl rfl ci_0 ?_
  refine z_bipush 7 13 rfl rfl cb_9 ?_
  refine z_cS3I 8 16 rfl rfl zl_X11_157 F_X11_in (zR_rm (by omega)) (c_X11_in X d x1 (0 : Int32) (9 : Int32) σ2) rfl (Nat.le_of_ble_eq_true rfl) (fun r3 σ4 => ?_)
  refine z_cV2I 9 19 rfl rfl zl_X11_348 F_X11_why (zR_rm (by omega)) (c_X11_why X d a0 (σ2.1 a0 14) r3 σ4) ⟨by decide, rfl, rfl⟩ h0 rfl (Nat.le_of_ble_eq_true rfl) (fun r5 σ6 => ?_)
  refine z_istore5 10 21 rfl rfl rfl (fun v7 => ?_)
  refine z_iload5 11 23 rfl rfl ?_
  refine z_if_ne 12 26 47 rfl rfl (by decide) ?_ ?_
  · refine z_iload4 13 28 rfl rfl ?_
    refine z_if_eq 14 31 40 rfl rfl (by decide) ?_ ?_
    · refine z_iload1 20 41 rfl rfl ?_
      refine z_iload2 21 42 rfl rfl ?_
      refine z_iload3 22 43 rfl rfl ?_
      refine z_cS3I 23 46 rfl rfl zl_X11_438 F_X11_footOf (zR_rm (by omega)) (c_X11_footOf X d x1 x2 x3 σ6) rfl (Nat.le_of_ble_eq_true rfl) (fun r8 σ9 => ?_)
      exact z_iret 24 rfl rfl
    · refine z_iload1 15 32 rfl rfl ?_
      refine z_iload3 16 33 rfl rfl ?_
      refine z_iload2 17 34 rfl rfl ?_
      refine z_cS3I 18 37 rfl rfl zl_X11_438 F_X11_footOf (zR_rm (by omega)) (c_X11_footOf X d x1 x3 x2 σ6) rfl (Nat.le_of_ble_eq_true rfl) (fun r10 σ11 => ?_)
      refine z_goto 19 46 rfl (by decide) ?_
      exact z_iret 24 rfl rfl
  · refine z_aload0 25 48 rfl rfl ?_
    refine z_iload5 26 50 rfl rfl ?_
    refine z_putI 27 53 11 rfl rfl zf_X11_68 rfl rfl rfl h0 (fun σ12 => ?_)
    refine z_bipush 28 55 rfl rfl cb_m100 ?_
    exact z_iret 29 rfl rfl
def f_X11_seekRests_119 (a0 : Nat) (H10 : Int32 → Int32 → Int32 → zS → Option (Int32 × zS)) (x1 : Int32) (x2 : Int32) (x3 : Int32) (σ : zS) : Option (Int32 × zS) := zlt (x3 + (1 : Int32)) (fun v1 => H10 x1 x2 v1 σ)
theorem t_X11_seekRests_119 (X : zX) (d : Nat) (hd : 1 ≤ d + 1) (a0 : Nat) (h0 : WM.2 a0 = (11, 0)) (H10 : Int32 → Int32 → Int32 → zS → Option (Int32 × zS)) (hH10 : ∀ (x1 : Int32) (x2 : Int32) (x3 : Int32) (σ : zS), zK X WM (zrm (d + 1)) M_X11_seekRests (zZ X WM zeI) 10 [some (.ref a0), some (.int x1), some (.int x2), some (.int x3), none, none] [] σ (H10 x1 x2 x3 σ)) (x1 : Int32) (x2 : Int32) (x3 : Int32) (σ : zS) : zK X WM (zrm (d + 1)) M_X11_seekRests (zZ X WM zeI) 119 [some (.ref a0), some (.int x1), some (.int x2), some (.int x3), none, none] [] σ (f_X11_seekRests_119 a0 H10 x1 x2 x3 σ) := by
  unfold f_X11_seekRests_119
  refine z_iinc3 67 122 rfl rfl ci_1 rfl (fun v1 => ?_)
  refine z_goto 68 10 rfl (by decide) ?_
  exact hH10 x1 x2 v1 σ
def f_X11_seekRests_116 (a0 : Nat) (H10 : Int32 → Int32 → Int32 → zS → Option (Int32 × zS)) (x1 : Int32) (x2 : Int32) (x3 : Int32) (σ : zS) : Option (Int32 × zS) := zlt (x2 + (1 : Int32)) (fun v2 => f_X11_seekRests_119 a0 H10 x1 v2 x3 σ)
theorem t_X11_seekRests_116 (X : zX) (d : Nat) (hd : 1 ≤ d + 1) (a0 : Nat) (h0 : WM.2 a0 = (11, 0)) (H10 : Int32 → Int32 → Int32 → zS → Option (Int32 × zS)) (hH10 : ∀ (x1 : Int32) (x2 : Int32) (x3 : Int32) (σ : zS), zK X WM (zrm (d + 1)) M_X11_seekRests (zZ X WM zeI) 10 [some (.ref a0), some (.int x1), some (.int x2), some (.int x3), none, none] [] σ (H10 x1 x2 x3 σ)) (x1 : Int32) (x2 : Int32) (x3 : Int32) (σ : zS) : zK X WM (zrm (d + 1)) M_X11_seekRests (zZ X WM zeI) 116 [some (.ref a0), some (.int x1), some (.int x2), some (.int x3), none, none] [] σ (f_X11_seekRests_116 a0 H10 x1 x2 x3 σ) := by
  unfold f_X11_seekRests_116
  refine z_iinc2 66 119 rfl rfl ci_1 rfl (fun v2 => ?_)
  exact t_X11_seekRests_119 X d hd a0 h0 H10 hH10 x1 v2 x3 σ
def f_X11_seekRests_79 (a0 : Nat) (H10 : Int32 → Int32 → Int32 → zS → Option (Int32 × zS)) (x1 : Int32) (x2 : Int32) (x3 : Int32) (x4 : Int32) (x5 : Int32) (s0 : Int32) (s1 : Int32) (σ : zS) : Option (Int32 × zS) := zbd (f_X11_footOf s0 s1 x4 σ) (fun r3 σ4 => zbd (f_X11_footOf x1 x5 x4 σ4) (fun r5 σ6 => zbr (r3 ≤ r5) (zbr (x2 = 0) (zck (¬ (2 : Int32) = 0) (zck (¬ (2 : Int32) = 0) (zlt (zpi σ6 a0 38 (((10 : Int32) * (x3 / (2 : Int32))) + (x3 - x3 / (2 : Int32) * (2 : Int32)))) (fun σ9 => f_X11_seekRests_116 a0 H10 x1 x2 x3 σ9)))) (f_X11_seekRests_116 a0 H10 x1 x2 x3 σ6)) (f_X11_seekRests_119 a0 H10 x1 x2 x3 σ6)))
theorem t_X11_seekRests_79 (X : zX) (d : Nat) (hd : 1 ≤ d + 1) (a0 : Nat) (h0 : WM.2 a0 = (11, 0)) (H10 : Int32 → Int32 → Int32 → zS → Option (Int32 × zS)) (hH10 : ∀ (x1 : Int32) (x2 : Int32) (x3 : Int32) (σ : zS), zK X WM (zrm (d + 1)) M_X11_seekRests (zZ X WM zeI) 10 [some (.ref a0), some (.int x1), some (.int x2), some (.int x3), none, none] [] σ (H10 x1 x2 x3 σ)) (x1 : Int32) (x2 : Int32) (x3 : Int32) (x4 : Int32) (x5 : Int32) (s0 : Int32) (s1 : Int32) (σ : zS) : zK X WM (zrm (d + 1)) M_X11_seekRests (zZ X WM zeI) 79 [some (.ref a0), some (.int x1), some (.int x2), some (.int x3), some (.int x4), some (.int x5)] [.int s1, .int s0] σ (f_X11_seekRests_79 a0 H10 x1 x2 x3 x4 x5 s0 s1 σ) := by
  unfold f_X11_seekRests_79
  refine z_iload4 45 81 rfl rfl ?_
  refine z_cS3I 46 84 rfl rfl zl_X11_438 F_X11_footOf (zR_rm (by omega)) (c_X11_footOf X d s0 s1 x4 σ) rfl (Nat.le_of_ble_eq_true rfl) (fun r3 σ4 => ?_)
  refine z_iload1 47 85 rfl rfl ?_
  refine z_iload5 48 87 rfl rfl ?_
  refine z_iload4 49 89 rfl rfl ?_
  refine z_cS3I 50 92 rfl rfl zl_X11_438 F_X11_footOf (zR_rm (by omega)) (c_X11_footOf X d x1 x5 x4 σ4) rfl (Nat.le_of_ble_eq_true rfl) (fun r5 σ6 => ?_)
  refine z_icmp_le 51 95 98 rfl rfl (by decide) ?_ ?_
  · refine z_iload2 53 99 rfl rfl ?_
    refine z_if_ne 54 102 116 rfl rfl (by decide) ?_ ?_
    · refine z_aload0 55 103 rfl rfl ?_
      refine z_bipush 56 105 rfl rfl cb_10 ?_
      refine z_iload3 57 106 rfl rfl ?_
      refine z_iconst 58 107 rfl rfl ci_2 ?_
      refine z_ck (fun h7 => ?_)
      refine z_idiv 59 108 rfl rfl h7 ?_
      refine z_imul 60 109 rfl rfl ?_
      refine z_iload3 61 110 rfl rfl ?_
      refine z_iconst 62 111 rfl rfl ci_2 ?_
      refine z_ck (fun h8 => ?_)
      refine z_irem 63 112 rfl rfl h8 ?_
      refine z_iadd 64 113 rfl rfl ?_
      refine z_putI 65 116 38 rfl rfl zf_X11_442 rfl rfl rfl h0 (fun σ9 => ?_)
      exact z_wk (zle_e (zle_e (zle_e (zle_e (zle_n (zle_n zle_0)))))) (t_X11_seekRests_116 X d hd a0 h0 H10 hH10 x1 x2 x3 σ9)
    · exact z_wk (zle_e (zle_e (zle_e (zle_e (zle_n (zle_n zle_0)))))) (t_X11_seekRests_116 X d hd a0 h0 H10 hH10 x1 x2 x3 σ6)
  · refine z_goto 52 119 rfl (by decide) ?_
    exact z_wk (zle_e (zle_e (zle_e (zle_e (zle_n (zle_n zle_0)))))) (t_X11_seekRests_119 X d hd a0 h0 H10 hH10 x1 x2 x3 σ6)
def f_X11_seekRests_52 (a0 : Nat) (H10 : Int32 → Int32 → Int32 → zS → Option (Int32 × zS)) (x1 : Int32) (x2 : Int32) (x3 : Int32) (x4 : Int32) (x5 : Int32) (s0 : Int32) (s1 : Int32) (σ : zS) : Option (Int32 × zS) := zbd (f_X11_footOf s0 s1 x5 σ) (fun r10 σ11 => zbd (f_X11_footOf x1 x4 x5 σ11) (fun r12 σ13 => zbr (r12 < r10) (f_X11_seekRests_119 a0 H10 x1 x2 x3 σ13) (zbr (x5 = 0) (f_X11_seekRests_79 a0 H10 x1 x2 x3 x4 x5 x1 (1 : Int32) σ13) (f_X11_seekRests_79 a0 H10 x1 x2 x3 x4 x5 x1 (0 : Int32) σ13))))
theorem t_X11_seekRests_52 (X : zX) (d : Nat) (hd : 1 ≤ d + 1) (a0 : Nat) (h0 : WM.2 a0 = (11, 0)) (H10 : Int32 → Int32 → Int32 → zS → Option (Int32 × zS)) (hH10 : ∀ (x1 : Int32) (x2 : Int32) (x3 : Int32) (σ : zS), zK X WM (zrm (d + 1)) M_X11_seekRests (zZ X WM zeI) 10 [some (.ref a0), some (.int x1), some (.int x2), some (.int x3), none, none] [] σ (H10 x1 x2 x3 σ)) (x1 : Int32) (x2 : Int32) (x3 : Int32) (x4 : Int32) (x5 : Int32) (s0 : Int32) (s1 : Int32) (σ : zS) : zK X WM (zrm (d + 1)) M_X11_seekRests (zZ X WM zeI) 52 [some (.ref a0), some (.int x1), some (.int x2), some (.int x3), some (.int x4), some (.int x5)] [.int s1, .int s0] σ (f_X11_seekRests_52 a0 H10 x1 x2 x3 x4 x5 s0 s1 σ) := by
  unfold f_X11_seekRests_52
  refine z_iload5 32 54 rfl rfl ?_
  refine z_cS3I 33 57 rfl rfl zl_X11_438 F_X11_footOf (zR_rm (by omega)) (c_X11_footOf X d s0 s1 x5 σ) rfl (Nat.le_of_ble_eq_true rfl) (fun r10 σ11 => ?_)
  refine z_iload1 34 58 rfl rfl ?_
  refine z_iload4 35 60 rfl rfl ?_
  refine z_iload5 36 62 rfl rfl ?_
  refine z_cS3I 37 65 rfl rfl zl_X11_438 F_X11_footOf (zR_rm (by omega)) (c_X11_footOf X d x1 x4 x5 σ11) rfl (Nat.le_of_ble_eq_true rfl) (fun r12 σ13 => ?_)
  refine z_icmp_gt 38 68 119 rfl rfl (by decide) ?_ ?_
  · exact z_wk (zle_e (zle_e (zle_e (zle_e (zle_n (zle_n zle_0)))))) (t_X11_seekRests_119 X d hd a0 h0 H10 hH10 x1 x2 x3 σ13)
  · refine z_iload1 39 69 rfl rfl ?_
    refine z_iload5 40 71 rfl rfl ?_
    refine z_if_ne 41 74 78 rfl rfl (by decide) ?_ ?_
    · refine z_iconst 42 75 rfl rfl ci_1 ?_
      refine z_goto 43 79 rfl (by decide) ?_
      exact t_X11_seekRests_79 X d hd a0 h0 H10 hH10 x1 x2 x3 x4 x5 x1 (1 : Int32) σ13
    · refine z_iconst 44 79 rfl rfl ci_0 ?_
      exact t_X11_seekRests_79 X d hd a0 h0 H10 hH10 x1 x2 x3 x4 x5 x1 (0 : Int32) σ13
def f_X11_seekRests_39 (a0 : Nat) (H10 : Int32 → Int32 → Int32 → zS → Option (Int32 × zS)) (x1 : Int32) (x2 : Int32) (x3 : Int32) (x4 : Int32) (s0 : Int32) (σ : zS) : Option (Int32 × zS) := zlt s0 (fun v14 => zbr (x4 = 0) (f_X11_seekRests_52 a0 H10 x1 x2 x3 x4 v14 x1 (1 : Int32) σ) (f_X11_seekRests_52 a0 H10 x1 x2 x3 x4 v14 x1 (0 : Int32) σ))
theorem t_X11_seekRests_39 (X : zX) (d : Nat) (hd : 1 ≤ d + 1) (a0 : Nat) (h0 : WM.2 a0 = (11, 0)) (H10 : Int32 → Int32 → Int32 → zS → Option (Int32 × zS)) (hH10 : ∀ (x1 : Int32) (x2 : Int32) (x3 : Int32) (σ : zS), zK X WM (zrm (d + 1)) M_X11_seekRests (zZ X WM zeI) 10 [some (.ref a0), some (.int x1), some (.int x2), some (.int x3), none, none] [] σ (H10 x1 x2 x3 σ)) (x1 : Int32) (x2 : Int32) (x3 : Int32) (x4 : Int32) (s0 : Int32) (σ : zS) : zK X WM (zrm (d + 1)) M_X11_seekRests (zZ X WM zeI) 39 [some (.ref a0), some (.int x1), some (.int x2), some (.int x3), some (.int x4), none] [.int s0] σ (f_X11_seekRests_39 a0 H10 x1 x2 x3 x4 s0 σ) := by
  unfold f_X11_seekRests_39
  refine z_istore5 25 41 rfl rfl rfl (fun v14 => ?_)
  refine z_iload1 26 42 rfl rfl ?_
  refine z_iload4 27 44 rfl rfl ?_
  refine z_if_ne 28 47 51 rfl rfl (by decide) ?_ ?_
  · refine z_iconst 29 48 rfl rfl ci_1 ?_
    refine z_goto 30 52 rfl (by decide) ?_
    exact t_X11_seekRests_52 X d hd a0 h0 H10 hH10 x1 x2 x3 x4 v14 x1 (1 : Int32) σ
  · refine z_iconst 31 52 rfl rfl ci_0 ?_
    exact t_X11_seekRests_52 X d hd a0 h0 H10 hH10 x1 x2 x3 x4 v14 x1 (0 : Int32) σ
def f_X11_seekRests_25 (a0 : Nat) (H10 : Int32 → Int32 → Int32 → zS → Option (Int32 × zS)) (x1 : Int32) (x2 : Int32) (x3 : Int32) (s0 : Int32) (σ : zS) : Option (Int32 × zS) := zlt s0 (fun v15 => zck (¬ (2 : Int32) = 0) (zbr ((x3 - x3 / (2 : Int32) * (2 : Int32)) = (1 : Int32)) (f_X11_seekRests_39 a0 H10 x1 x2 x3 v15 (1 : Int32) σ) (f_X11_seekRests_39 a0 H10 x1 x2 x3 v15 (0 : Int32) σ)))
theorem t_X11_seekRests_25 (X : zX) (d : Nat) (hd : 1 ≤ d + 1) (a0 : Nat) (h0 : WM.2 a0 = (11, 0)) (H10 : Int32 → Int32 → Int32 → zS → Option (Int32 × zS)) (hH10 : ∀ (x1 : Int32) (x2 : Int32) (x3 : Int32) (σ : zS), zK X WM (zrm (d + 1)) M_X11_seekRests (zZ X WM zeI) 10 [some (.ref a0), some (.int x1), some (.int x2), some (.int x3), none, none] [] σ (H10 x1 x2 x3 σ)) (x1 : Int32) (x2 : Int32) (x3 : Int32) (s0 : Int32) (σ : zS) : zK X WM (zrm (d + 1)) M_X11_seekRests (zZ X WM zeI) 25 [some (.ref a0), some (.int x1), some (.int x2), some (.int x3), none, none] [.int s0] σ (f_X11_seekRests_25 a0 H10 x1 x2 x3 s0 σ) := by
  unfold f_X11_seekRests_25
  refine z_istore4 16 27 rfl rfl rfl (fun v15 => ?_)
  refine z_iload3 17 28 rfl rfl ?_
  refine z_iconst 18 29 rfl rfl ci_2 ?_
  refine z_ck (fun h16 => ?_)
  refine z_irem 19 30 rfl rfl h16 ?_
  refine z_iconst 20 31 rfl rfl ci_1 ?_
  refine z_icmp_ne 21 34 38 rfl rfl (by decide) ?_ ?_
  · refine z_iconst 22 35 rfl rfl ci_1 ?_
    refine z_goto 23 39 rfl (by decide) ?_
    exact t_X11_seekRests_39 X d hd a0 h0 H10 hH10 x1 x2 x3 v15 (1 : Int32) σ
  · refine z_iconst 24 39 rfl rfl ci_0 ?_
    exact t_X11_seekRests_39 X d hd a0 h0 H10 hH10 x1 x2 x3 v15 (0 : Int32) σ
def f_X11_seekRests_10 (a0 : Nat) : Nat → Int32 → Int32 → Int32 → zS → Option (Int32 × zS)
  | 0, _, _, _, _ => none
  | n + 1, x1, x2, x3, σ => zbr ((4 : Int32) ≤ x3) (some (x2, σ)) (zbr (x3 ≤ (1 : Int32)) (f_X11_seekRests_25 a0 (f_X11_seekRests_10 a0 n) x1 x2 x3 (0 : Int32) σ) (f_X11_seekRests_25 a0 (f_X11_seekRests_10 a0 n) x1 x2 x3 (1 : Int32) σ))
theorem t_X11_seekRests_10 (X : zX) (d : Nat) (hd : 1 ≤ d + 1) (a0 : Nat) (h0 : WM.2 a0 = (11, 0)) : ∀ (n : Nat) (x1 : Int32) (x2 : Int32) (x3 : Int32) (σ : zS), zK X WM (zrm (d + 1)) M_X11_seekRests (zZ X WM zeI) 10 [some (.ref a0), some (.int x1), some (.int x2), some (.int x3), none, none] [] σ (f_X11_seekRests_10 a0 n x1 x2 x3 σ) := by
  intro n
  induction n with
  | zero => intro x1 x2 x3 σ; exact z_none
  | succ n ih =>
    intro x1 x2 x3 σ
    rw [f_X11_seekRests_10]
    refine z_iload3 7 11 rfl rfl ?_
    refine z_iconst 8 12 rfl rfl ci_4 ?_
    refine z_icmp_ge 9 15 125 rfl rfl (by decide) ?_ ?_
    · refine z_iload2 69 126 rfl rfl ?_
      exact z_iret 70 rfl rfl
    · refine z_iload3 10 16 rfl rfl ?_
      refine z_iconst 11 17 rfl rfl ci_1 ?_
      refine z_icmp_le 12 20 24 rfl rfl (by decide) ?_ ?_
      · refine z_iconst 15 25 rfl rfl ci_0 ?_
        exact t_X11_seekRests_25 X d hd a0 h0 (f_X11_seekRests_10 a0 n) ih x1 x2 x3 (0 : Int32) σ
      · refine z_iconst 13 21 rfl rfl ci_1 ?_
        refine z_goto 14 25 rfl (by decide) ?_
        exact t_X11_seekRests_25 X d hd a0 h0 (f_X11_seekRests_10 a0 n) ih x1 x2 x3 (1 : Int32) σ
def f_X11_seekRests (a0 : Nat) (x1 : Int32) (σ : zS) : Option (Int32 × zS) := zck (WM.2 a0 = (11, 0)) (zlt (0 : Int32) (fun v17 => zlt (zpi σ a0 38 (-2 : Int32)) (fun σ18 => zlt (0 : Int32) (fun v19 => f_X11_seekRests_10 a0 FU x1 v17 v19 σ18))))
theorem c_X11_seekRests (X : zX) (d : Nat) (hd : 1 ≤ d) (a0 : Nat) (x1 : Int32) (σ : zS) : ∀ (r : Int32) (σ' : zS), f_X11_seekRests a0 x1 σ = some (r, σ') → zCN X WM d M_X11_seekRests [.ref a0, .int x1] σ (zeI r, σ') := by
  obtain ⟨d, rfl⟩ : ∃ e, d = e + 1 := ⟨d - 1, by omega⟩
  refine z_entry [.ref a0, .int x1] (by decide +kernel) T_X11_seekRests (Nat.le_of_ble_eq_true rfl) ?_
  show zK X WM (zrm (d + 1)) M_X11_seekRests (zZ X WM zeI) 0 [some (.ref a0), some (.int x1), none, none, none, none] [] σ (f_X11_seekRests a0 x1 σ)
  unfold f_X11_seekRests
  refine z_ck (fun h0 => ?_)
  refine z_iconst 0 1 rfl rfl ci_0 ?_
  refine z_istore2 1 2 rfl rfl rfl (fun v17 => ?_)
  refine z_aload0 2 3 rfl rfl ?_
  refine z_bipush 3 5 rfl rfl cb_m2 ?_
  refine z_putI 4 8 38 rfl rfl zf_X11_442 rfl rfl rfl h0 (fun σ18 => ?_)
  refine z_iconst 5 9 rfl rfl ci_0 ?_
  refine z_istore3 6 10 rfl rfl rfl (fun v19 => ?_)
  exact t_X11_seekRests_10 X d hd a0 h0  FU x1 v17 v19 σ18
def f_X11_rests (a0 : Nat) (x1 : Int32) (σ : zS) : Option (Int32 × zS) := zck (WM.2 a0 = (11, 0)) (zbd (f_X11_good a0 σ) (fun r1 σ2 => zbd (f_X11_in x1 (0 : Int32) (9 : Int32) σ2) (fun r3 σ4 => zbd (f_X11_why a0 (σ2.1 a0 14) r3 σ4) (fun r5 σ6 => zlt r5 (fun v7 => zbr (v7 = 0) (zbd (f_X11_seekRests a0 x1 σ6) (fun r8 σ9 => some (r8, σ9))) (zbd (f_X11_no a0 v7 σ6) (fun r10 σ11 => some (r10, σ11))))))))
theorem c_X11_rests (X : zX) (d : Nat) (hd : 2 ≤ d) (a0 : Nat) (x1 : Int32) (σ : zS) : ∀ (r : Int32) (σ' : zS), f_X11_rests a0 x1 σ = some (r, σ') → zCN X WM d M_X11_rests [.ref a0, .int x1] σ (zeI r, σ') := by
  obtain ⟨d, rfl⟩ : ∃ e, d = e + 1 := ⟨d - 1, by omega⟩
  refine z_entry [.ref a0, .int x1] (by decide +kernel) T_X11_rests (Nat.le_of_ble_eq_true rfl) ?_
  show zK X WM (zrm (d + 1)) M_X11_rests (zZ X WM zeI) 0 [some (.ref a0), some (.int x1), none] [] σ (f_X11_rests a0 x1 σ)
  unfold f_X11_rests
  refine z_ck (fun h0 => ?_)
  refine z_aload0 0 1 rfl rfl ?_
  refine z_cV0V 1 4 rfl rfl zl_X11_178 F_X11_good (zR_rm (by omega)) (c_X11_good X d a0 σ) ⟨by decide, rfl, rfl⟩ h0 rfl (Nat.le_of_ble_eq_true rfl) (fun r1 σ2 => ?_)
  refine z_aload0 2 5 rfl rfl ?_
  refine z_aload0 3 6 rfl rfl ?_
  refine z_getI 4 9 14 rfl rfl zf_X11_191 rfl h0 ?_
  refine z_iload1 5 10 rfl rfl ?_
  refine z_iconst 6 11 rfl rfl ci_0 ?_
  refine z_bipush 7 13 rfl rfl cb_9 ?_
  refine z_cS3I 8 16 rfl rfl zl_X11_157 F_X11_in (zR_rm (by omega)) (c_X11_in X d x1 (0 : Int32) (9 : Int32) σ2) rfl (Nat.le_of_ble_eq_true rfl) (fun r3 σ4 => ?_)
  refine z_cV2I 9 19 rfl rfl zl_X11_348 F_X11_why (zR_rm (by omega)) (c_X11_why X d a0 (σ2.1 a0 14) r3 σ4) ⟨by decide, rfl, rfl⟩ h0 rfl (Nat.le_of_ble_eq_true rfl) (fun r5 σ6 => ?_)
  refine z_istore2 10 20 rfl rfl rfl (fun v7 => ?_)
  refine z_iload2 11 21 rfl rfl ?_
  refine z_if_eq 12 24 32 rfl rfl (by decide) ?_ ?_
  · refine z_aload0 17 33 rfl rfl ?_
    refine z_iload1 18 34 rfl rfl ?_
    refine z_cV1I 19 37 rfl rfl zl_X11_445 F_X11_seekRests (zR_rm (by omega)) (c_X11_seekRests X d (by omega) a0 x1 σ6) ⟨by decide, rfl, rfl⟩ h0 rfl (Nat.le_of_ble_eq_true rfl) (fun r8 σ9 => ?_)
    exact z_iret 20 rfl rfl
  · refine z_aload0 13 25 rfl rfl ?_
    refine z_iload2 14 26 rfl rfl ?_
    refine z_cV1I 15 29 rfl rfl zl_X11_181 F_X11_no (zR_rm (by omega)) (c_X11_no X d a0 v7 σ6) ⟨by decide, rfl, rfl⟩ h0 rfl (Nat.le_of_ble_eq_true rfl) (fun r10 σ11 => ?_)
    refine z_goto 16 37 rfl (by decide) ?_
    exact z_iret 20 rfl rfl
def f_X11_rest (a0 : Nat) (x1 : Int32) (σ : zS) : Option (Int32 × zS) := zck (WM.2 a0 = (11, 0)) (zbd (f_X11_good a0 σ) (fun r1 σ2 => zbd (f_X11_in x1 (0 : Int32) (9 : Int32) σ2) (fun r3 σ4 => zbd (f_X11_why a0 (σ2.1 a0 14) r3 σ4) (fun r5 σ6 => zlt r5 (fun v7 => zbr (v7 = 0) (zbd (f_X11_seekRests a0 x1 σ6) (fun r8 σ9 => some ((σ9.1 a0 38), σ9))) (zbd (f_X11_no a0 v7 σ6) (fun r10 σ11 => some (r10, σ11))))))))
theorem c_X11_rest (X : zX) (d : Nat) (hd : 2 ≤ d) (a0 : Nat) (x1 : Int32) (σ : zS) : ∀ (r : Int32) (σ' : zS), f_X11_rest a0 x1 σ = some (r, σ') → zCN X WM d M_X11_rest [.ref a0, .int x1] σ (zeI r, σ') := by
  obtain ⟨d, rfl⟩ : ∃ e, d = e + 1 := ⟨d - 1, by omega⟩
  refine z_entry [.ref a0, .int x1] (by decide +kernel) T_X11_rest (Nat.le_of_ble_eq_true rfl) ?_
  show zK X WM (zrm (d + 1)) M_X11_rest (zZ X WM zeI) 0 [some (.ref a0), some (.int x1), none] [] σ (f_X11_rest a0 x1 σ)
  unfold f_X11_rest
  refine z_ck (fun h0 => ?_)
  refine z_aload0 0 1 rfl rfl ?_
  refine z_cV0V 1 4 rfl rfl zl_X11_178 F_X11_good (zR_rm (by omega)) (c_X11_good X d a0 σ) ⟨by decide, rfl, rfl⟩ h0 rfl (Nat.le_of_ble_eq_true rfl) (fun r1 σ2 => ?_)
  refine z_aload0 2 5 rfl rfl ?_
  refine z_aload0 3 6 rfl rfl ?_
  refine z_getI 4 9 14 rfl rfl zf_X11_191 rfl h0 ?_
  refine z_iload1 5 10 rfl rfl ?_
  refine z_iconst 6 11 rfl rfl ci_0 ?_
  refine z_bipush 7 13 rfl rfl cb_9 ?_
  refine z_cS3I 8 16 rfl rfl zl_X11_157 F_X11_in (zR_rm (by omega)) (c_X11_in X d x1 (0 : Int32) (9 : Int32) σ2) rfl (Nat.le_of_ble_eq_true rfl) (fun r3 σ4 => ?_)
  refine z_cV2I 9 19 rfl rfl zl_X11_348 F_X11_why (zR_rm (by omega)) (c_X11_why X d a0 (σ2.1 a0 14) r3 σ4) ⟨by decide, rfl, rfl⟩ h0 rfl (Nat.le_of_ble_eq_true rfl) (fun r5 σ6 => ?_)
  refine z_istore2 10 20 rfl rfl rfl (fun v7 => ?_)
  refine z_iload2 11 21 rfl rfl ?_
  refine z_if_eq 12 24 30 rfl rfl (by decide) ?_ ?_
  · refine z_aload0 17 31 rfl rfl ?_
    refine z_iload1 18 32 rfl rfl ?_
    refine z_cV1I 19 35 rfl rfl zl_X11_445 F_X11_seekRests (zR_rm (by omega)) (c_X11_seekRests X d (by omega) a0 x1 σ6) ⟨by decide, rfl, rfl⟩ h0 rfl (Nat.le_of_ble_eq_true rfl) (fun r8 σ9 => ?_)
    refine z_pop 20 36 rfl rfl rfl ?_
    refine z_aload0 21 37 rfl rfl ?_
    refine z_getI 22 40 38 rfl rfl zf_X11_442 rfl h0 ?_
    exact z_iret 23 rfl rfl
  · refine z_aload0 13 25 rfl rfl ?_
    refine z_iload2 14 26 rfl rfl ?_
    refine z_cV1I 15 29 rfl rfl zl_X11_181 F_X11_no (zR_rm (by omega)) (c_X11_no X d a0 v7 σ6) ⟨by decide, rfl, rfl⟩ h0 rfl (Nat.le_of_ble_eq_true rfl) (fun r10 σ11 => ?_)
    exact z_iret 16 rfl rfl
def f_X11_weightOf_61 (a0 : Nat) (H5 : Int32 → Int64 → Int32 → zS → Option (Int64 × zS)) (x1 : Int32) (x2 : Int64) (x4 : Int32) (σ : zS) : Option (Int64 × zS) := zlt (x4 + (1 : Int32)) (fun v1 => H5 x1 x2 v1 σ)
theorem t_X11_weightOf_61 (X : zX) (d : Nat) (hd : 2 ≤ d + 1) (a0 : Nat) (h0 : WM.2 a0 = (11, 0)) (H5 : Int32 → Int64 → Int32 → zS → Option (Int64 × zS)) (hH5 : ∀ (x1 : Int32) (x2 : Int64) (x4 : Int32) (σ : zS), zK X WM (zrm (d + 1)) M_X11_weightOf (zZ X WM zeL) 5 [some (.ref a0), some (.int x1), some (.long x2), none, some (.int x4)] [] σ (H5 x1 x2 x4 σ)) (x1 : Int32) (x2 : Int64) (x4 : Int32) (σ : zS) : zK X WM (zrm (d + 1)) M_X11_weightOf (zZ X WM zeL) 61 [some (.ref a0), some (.int x1), some (.long x2), none, some (.int x4)] [] σ (f_X11_weightOf_61 a0 H5 x1 x2 x4 σ) := by
  unfold f_X11_weightOf_61
  refine z_iinc4 35 64 rfl rfl ci_1 rfl (fun v1 => ?_)
  refine z_goto 36 5 rfl (by decide) ?_
  exact hH5 x1 x2 v1 σ
def f_X11_weightOf_59 (a0 : Nat) (H5 : Int32 → Int64 → Int32 → zS → Option (Int64 × zS)) (x1 : Int32) (x4 : Int32) (s0 : Int64) (s1 : Int64) (σ : zS) : Option (Int64 × zS) := zlt (s0 * s1) (fun v2 => f_X11_weightOf_61 a0 H5 x1 v2 x4 σ)
theorem t_X11_weightOf_59 (X : zX) (d : Nat) (hd : 2 ≤ d + 1) (a0 : Nat) (h0 : WM.2 a0 = (11, 0)) (H5 : Int32 → Int64 → Int32 → zS → Option (Int64 × zS)) (hH5 : ∀ (x1 : Int32) (x2 : Int64) (x4 : Int32) (σ : zS), zK X WM (zrm (d + 1)) M_X11_weightOf (zZ X WM zeL) 5 [some (.ref a0), some (.int x1), some (.long x2), none, some (.int x4)] [] σ (H5 x1 x2 x4 σ)) (x1 : Int32) (x4 : Int32) (s0 : Int64) (s1 : Int64) (σ : zS) : zK X WM (zrm (d + 1)) M_X11_weightOf (zZ X WM zeL) 59 [some (.ref a0), some (.int x1), none, none, some (.int x4)] [.long s1, .long s0] σ (f_X11_weightOf_59 a0 H5 x1 x4 s0 s1 σ) := by
  unfold f_X11_weightOf_59
  refine z_lmul 33 60 rfl rfl ?_
  refine z_lstore2 34 61 rfl rfl rfl (fun v2 => ?_)
  exact t_X11_weightOf_61 X d hd a0 h0 H5 hH5 x1 v2 x4 σ
def f_X11_weightOf_5 (a0 : Nat) : Nat → Int32 → Int64 → Int32 → zS → Option (Int64 × zS)
  | 0, _, _, _, _ => none
  | n + 1, x1, x2, x4, σ => zck (zok 100 (WM.2 (σ.2 a0 19)) (48 : Int32)) (zbr ((σ.1 (σ.2 a0 19) (48 : Int32).toNatClampNeg) ≤ x4) (some (x2, σ)) (zbd (f_X11_isRead (σ.2 a0 19) x4 σ) (fun r3 σ4 => zbr (r3 = 0) (f_X11_weightOf_61 a0 (f_X11_weightOf_5 a0 n) x1 x2 x4 σ4) (zbd (f_X11_hasBit x1 x4 σ4) (fun r5 σ6 => zbr (r5 = 0) (zck (zok 100 (WM.2 (σ6.2 a0 15)) (0 : Int32)) (f_X11_weightOf_59 a0 (f_X11_weightOf_5 a0 n) x1 x4 x2 ((100 : Int32) - (σ6.1 (σ6.2 a0 15) (0 : Int32).toNatClampNeg)).toInt64 σ6)) (zck (zok 100 (WM.2 (σ6.2 a0 15)) (0 : Int32)) (f_X11_weightOf_59 a0 (f_X11_weightOf_5 a0 n) x1 x4 x2 (σ6.1 (σ6.2 a0 15) (0 : Int32).toNatClampNeg).toInt64 σ6)))))))
theorem t_X11_weightOf_5 (X : zX) (d : Nat) (hd : 2 ≤ d + 1) (a0 : Nat) (h0 : WM.2 a0 = (11, 0)) : ∀ (n : Nat) (x1 : Int32) (x2 : Int64) (x4 : Int32) (σ : zS), zK X WM (zrm (d + 1)) M_X11_weightOf (zZ X WM zeL) 5 [some (.ref a0), some (.int x1), some (.long x2), none, some (.int x4)] [] σ (f_X11_weightOf_5 a0 n x1 x2 x4 σ) := by
  intro n
  induction n with
  | zero => intro x1 x2 x4 σ; exact z_none
  | succ n ih =>
    intro x1 x2 x4 σ
    rw [f_X11_weightOf_5]
    refine z_iload4 4 7 rfl rfl ?_
    refine z_aload0 5 8 rfl rfl ?_
    refine z_getR 6 11 19 rfl rfl zf_X11_32 rfl h0 ?_
    refine z_bipush 7 13 rfl rfl cb_48 ?_
    refine z_iald 8 14 rfl rfl ?_
    refine z_icmp_ge 9 17 67 rfl rfl (by decide) ?_ ?_
    · refine z_lload2 37 68 rfl rfl ?_
      exact z_lret 38 rfl rfl
    · refine z_aload0 10 18 rfl rfl ?_
      refine z_getR 11 21 19 rfl rfl zf_X11_32 rfl h0 ?_
      refine z_iload4 12 23 rfl rfl ?_
      refine z_cS2I 13 26 rfl rfl zl_X11_284 F_X11_isRead (zR_rm (by omega)) (c_X11_isRead X d (by omega) (σ.2 a0 19) x4 σ) rfl (Nat.le_of_ble_eq_true rfl) (fun r3 σ4 => ?_)
      refine z_if_eq 14 29 61 rfl rfl (by decide) ?_ ?_
      · exact t_X11_weightOf_61 X d hd a0 h0 (f_X11_weightOf_5 a0 n) ih x1 x2 x4 σ4
      · refine z_lload2 15 30 rfl rfl ?_
        refine z_iload1 16 31 rfl rfl ?_
        refine z_iload4 17 33 rfl rfl ?_
        refine z_cS2I 18 36 rfl rfl zl_X11_277 F_X11_hasBit (zR_rm (by omega)) (c_X11_hasBit X d x1 x4 σ4) rfl (Nat.le_of_ble_eq_true rfl) (fun r5 σ6 => ?_)
        refine z_if_eq 19 39 49 rfl rfl (by decide) ?_ ?_
        · refine z_bipush 26 51 rfl rfl cb_100 ?_
          refine z_aload0 27 52 rfl rfl ?_
          refine z_getR 28 55 15 rfl rfl zf_X11_20 rfl h0 ?_
          refine z_iconst 29 56 rfl rfl ci_0 ?_
          refine z_iald 30 57 rfl rfl ?_
          refine z_isub 31 58 rfl rfl ?_
          refine z_i2l 32 59 rfl rfl ?_
          exact z_wk (zle_e (zle_e (zle_n (zle_e (zle_e zle_0))))) (t_X11_weightOf_59 X d hd a0 h0 (f_X11_weightOf_5 a0 n) ih x1 x4 x2 ((100 : Int32) - (σ6.1 (σ6.2 a0 15) (0 : Int32).toNatClampNeg)).toInt64 σ6)
        · refine z_aload0 20 40 rfl rfl ?_
          refine z_getR 21 43 15 rfl rfl zf_X11_20 rfl h0 ?_
          refine z_iconst 22 44 rfl rfl ci_0 ?_
          refine z_iald 23 45 rfl rfl ?_
          refine z_i2l 24 46 rfl rfl ?_
          refine z_goto 25 59 rfl (by decide) ?_
          exact z_wk (zle_e (zle_e (zle_n (zle_e (zle_e zle_0))))) (t_X11_weightOf_59 X d hd a0 h0 (f_X11_weightOf_5 a0 n) ih x1 x4 x2 (σ6.1 (σ6.2 a0 15) (0 : Int32).toNatClampNeg).toInt64 σ6)
def f_X11_weightOf (a0 : Nat) (x1 : Int32) (σ : zS) : Option (Int64 × zS) := zck (WM.2 a0 = (11, 0)) (zlt (1 : Int64) (fun v7 => zlt (0 : Int32) (fun v8 => f_X11_weightOf_5 a0 FU x1 v7 v8 σ)))
theorem c_X11_weightOf (X : zX) (d : Nat) (hd : 2 ≤ d) (a0 : Nat) (x1 : Int32) (σ : zS) : ∀ (r : Int64) (σ' : zS), f_X11_weightOf a0 x1 σ = some (r, σ') → zCN X WM d M_X11_weightOf [.ref a0, .int x1] σ (zeL r, σ') := by
  obtain ⟨d, rfl⟩ : ∃ e, d = e + 1 := ⟨d - 1, by omega⟩
  refine z_entry [.ref a0, .int x1] (by decide +kernel) T_X11_weightOf (Nat.le_of_ble_eq_true rfl) ?_
  show zK X WM (zrm (d + 1)) M_X11_weightOf (zZ X WM zeL) 0 [some (.ref a0), some (.int x1), none, none, none] [] σ (f_X11_weightOf a0 x1 σ)
  unfold f_X11_weightOf
  refine z_ck (fun h0 => ?_)
  refine z_lconst 0 1 rfl rfl cl_1 ?_
  refine z_lstore2 1 2 rfl rfl rfl (fun v7 => ?_)
  refine z_iconst 2 3 rfl rfl ci_0 ?_
  refine z_istore4 3 5 rfl rfl rfl (fun v8 => ?_)
  exact t_X11_weightOf_5 X d hd a0 h0  FU x1 v7 v8 σ
def f_X11_allWeight_32 (a0 : Nat) (H4 : Int64 → Int32 → zS → Option (Int64 × zS)) (x1 : Int64) (x3 : Int32) (σ : zS) : Option (Int64 × zS) := zlt (x3 + (1 : Int32)) (fun v1 => H4 x1 v1 σ)
theorem t_X11_allWeight_32 (X : zX) (d : Nat) (hd : 2 ≤ d + 1) (a0 : Nat) (h0 : WM.2 a0 = (11, 0)) (H4 : Int64 → Int32 → zS → Option (Int64 × zS)) (hH4 : ∀ (x1 : Int64) (x3 : Int32) (σ : zS), zK X WM (zrm (d + 1)) M_X11_allWeight (zZ X WM zeL) 4 [some (.ref a0), some (.long x1), none, some (.int x3)] [] σ (H4 x1 x3 σ)) (x1 : Int64) (x3 : Int32) (σ : zS) : zK X WM (zrm (d + 1)) M_X11_allWeight (zZ X WM zeL) 32 [some (.ref a0), some (.long x1), none, some (.int x3)] [] σ (f_X11_allWeight_32 a0 H4 x1 x3 σ) := by
  unfold f_X11_allWeight_32
  refine z_iinc3 19 35 rfl rfl ci_1 rfl (fun v1 => ?_)
  refine z_goto 20 4 rfl (by decide) ?_
  exact hH4 x1 v1 σ
def f_X11_allWeight_4 (a0 : Nat) : Nat → Int64 → Int32 → zS → Option (Int64 × zS)
  | 0, _, _, _ => none
  | n + 1, x1, x3, σ => zck (zok 100 (WM.2 (σ.2 a0 19)) (48 : Int32)) (zbr ((σ.1 (σ.2 a0 19) (48 : Int32).toNatClampNeg) ≤ x3) (some (x1, σ)) (zbd (f_X11_isRead (σ.2 a0 19) x3 σ) (fun r2 σ3 => zbr (r2 = 0) (f_X11_allWeight_32 a0 (f_X11_allWeight_4 a0 n) x1 x3 σ3) (zlt (x1 * (100 : Int64)) (fun v4 => f_X11_allWeight_32 a0 (f_X11_allWeight_4 a0 n) v4 x3 σ3)))))
theorem t_X11_allWeight_4 (X : zX) (d : Nat) (hd : 2 ≤ d + 1) (a0 : Nat) (h0 : WM.2 a0 = (11, 0)) : ∀ (n : Nat) (x1 : Int64) (x3 : Int32) (σ : zS), zK X WM (zrm (d + 1)) M_X11_allWeight (zZ X WM zeL) 4 [some (.ref a0), some (.long x1), none, some (.int x3)] [] σ (f_X11_allWeight_4 a0 n x1 x3 σ) := by
  intro n
  induction n with
  | zero => intro x1 x3 σ; exact z_none
  | succ n ih =>
    intro x1 x3 σ
    rw [f_X11_allWeight_4]
    refine z_iload3 4 5 rfl rfl ?_
    refine z_aload0 5 6 rfl rfl ?_
    refine z_getR 6 9 19 rfl rfl zf_X11_32 rfl h0 ?_
    refine z_bipush 7 11 rfl rfl cb_48 ?_
    refine z_iald 8 12 rfl rfl ?_
    refine z_icmp_ge 9 15 38 rfl rfl (by decide) ?_ ?_
    · refine z_lload1 21 39 rfl rfl ?_
      exact z_lret 22 rfl rfl
    · refine z_aload0 10 16 rfl rfl ?_
      refine z_getR 11 19 19 rfl rfl zf_X11_32 rfl h0 ?_
      refine z_iload3 12 20 rfl rfl ?_
      refine z_cS2I 13 23 rfl rfl zl_X11_284 F_X11_isRead (zR_rm (by omega)) (c_X11_isRead X d (by omega) (σ.2 a0 19) x3 σ) rfl (Nat.le_of_ble_eq_true rfl) (fun r2 σ3 => ?_)
      refine z_if_eq 14 26 32 rfl rfl (by decide) ?_ ?_
      · exact t_X11_allWeight_32 X d hd a0 h0 (f_X11_allWeight_4 a0 n) ih x1 x3 σ3
      · refine z_lload1 15 27 rfl rfl ?_
        refine z_ldc2 16 30 rfl rfl (v := (100 : Int64)) (zTT_in (i := 1946) (by decide +kernel) rfl) ?_
        refine z_lmul 17 31 rfl rfl ?_
        refine z_lstore1 18 32 rfl rfl rfl (fun v4 => ?_)
        exact t_X11_allWeight_32 X d hd a0 h0 (f_X11_allWeight_4 a0 n) ih v4 x3 σ3
def f_X11_allWeight (a0 : Nat) (σ : zS) : Option (Int64 × zS) := zck (WM.2 a0 = (11, 0)) (zlt (1 : Int64) (fun v5 => zlt (0 : Int32) (fun v6 => f_X11_allWeight_4 a0 FU v5 v6 σ)))
theorem c_X11_allWeight (X : zX) (d : Nat) (hd : 2 ≤ d) (a0 : Nat) (σ : zS) : ∀ (r : Int64) (σ' : zS), f_X11_allWeight a0 σ = some (r, σ') → zCN X WM d M_X11_allWeight [.ref a0] σ (zeL r, σ') := by
  obtain ⟨d, rfl⟩ : ∃ e, d = e + 1 := ⟨d - 1, by omega⟩
  refine z_entry [.ref a0] (by decide +kernel) T_X11_allWeight (Nat.le_of_ble_eq_true rfl) ?_
  show zK X WM (zrm (d + 1)) M_X11_allWeight (zZ X WM zeL) 0 [some (.ref a0), none, none, none] [] σ (f_X11_allWeight a0 σ)
  unfold f_X11_allWeight
  refine z_ck (fun h0 => ?_)
  refine z_lconst 0 1 rfl rfl cl_1 ?_
  refine z_lstore1 1 2 rfl rfl rfl (fun v5 => ?_)
  refine z_iconst 2 3 rfl rfl ci_0 ?_
  refine z_istore3 3 4 rfl rfl rfl (fun v6 => ?_)
  exact t_X11_allWeight_4 X d hd a0 h0  FU v5 v6 σ
def f_X11_doneWeight_64 (a0 : Nat) (H5 : Int32 → Int64 → Int32 → zS → Option (Int64 × zS)) (x1 : Int32) (x4 : Int32) (s0 : Int64) (s1 : Int64) (σ : zS) : Option (Int64 × zS) := zlt (s0 + s1) (fun v1 => zlt (x4 + (1 : Int32)) (fun v2 => H5 x1 v1 v2 σ))
theorem t_X11_doneWeight_64 (X : zX) (d : Nat) (hd : 6 ≤ d + 1) (a0 : Nat) (h0 : WM.2 a0 = (11, 0)) (H5 : Int32 → Int64 → Int32 → zS → Option (Int64 × zS)) (hH5 : ∀ (x1 : Int32) (x2 : Int64) (x4 : Int32) (σ : zS), zK X WM (zrm (d + 1)) M_X11_doneWeight (zZ X WM zeL) 5 [some (.ref a0), some (.int x1), some (.long x2), none, some (.int x4)] [] σ (H5 x1 x2 x4 σ)) (x1 : Int32) (x4 : Int32) (s0 : Int64) (s1 : Int64) (σ : zS) : zK X WM (zrm (d + 1)) M_X11_doneWeight (zZ X WM zeL) 64 [some (.ref a0), some (.int x1), none, none, some (.int x4)] [.long s1, .long s0] σ (f_X11_doneWeight_64 a0 H5 x1 x4 s0 s1 σ) := by
  unfold f_X11_doneWeight_64
  refine z_ladd 37 65 rfl rfl ?_
  refine z_lstore2 38 66 rfl rfl rfl (fun v1 => ?_)
  refine z_iinc4 39 69 rfl rfl ci_1 rfl (fun v2 => ?_)
  refine z_goto 40 5 rfl (by decide) ?_
  exact hH5 x1 v1 v2 σ
def f_X11_doneWeight_63 (a0 : Nat) (H5 : Int32 → Int64 → Int32 → zS → Option (Int64 × zS)) (x1 : Int32) (x4 : Int32) (s0 : Int64) (σ : zS) : Option (Int64 × zS) := f_X11_doneWeight_64 a0 H5 x1 x4 s0 (0 : Int64) σ
theorem t_X11_doneWeight_63 (X : zX) (d : Nat) (hd : 6 ≤ d + 1) (a0 : Nat) (h0 : WM.2 a0 = (11, 0)) (H5 : Int32 → Int64 → Int32 → zS → Option (Int64 × zS)) (hH5 : ∀ (x1 : Int32) (x2 : Int64) (x4 : Int32) (σ : zS), zK X WM (zrm (d + 1)) M_X11_doneWeight (zZ X WM zeL) 5 [some (.ref a0), some (.int x1), some (.long x2), none, some (.int x4)] [] σ (H5 x1 x2 x4 σ)) (x1 : Int32) (x4 : Int32) (s0 : Int64) (σ : zS) : zK X WM (zrm (d + 1)) M_X11_doneWeight (zZ X WM zeL) 63 [some (.ref a0), some (.int x1), none, none, some (.int x4)] [.long s0] σ (f_X11_doneWeight_63 a0 H5 x1 x4 s0 σ) := by
  unfold f_X11_doneWeight_63
  refine z_lconst 36 64 rfl rfl cl_0 ?_
  exact t_X11_doneWeight_64 X d hd a0 h0 H5 hH5 x1 x4 s0 (0 : Int64) σ
def f_X11_doneWeight_5 (a0 : Nat) : Nat → Int32 → Int64 → Int32 → zS → Option (Int64 × zS)
  | 0, _, _, _, _ => none
  | n + 1, x1, x2, x4, σ => zck (zok 100 (WM.2 (σ.2 a0 19)) (48 : Int32)) (zbr (((1 : Int32) <<< ((σ.1 (σ.2 a0 19) (48 : Int32).toNatClampNeg) &&& 31)) ≤ x4) (some (x2, σ)) (zbd (f_X11_allRead a0 σ) (fun r3 σ4 => zbr ((x4 &&& (r3 ^^^ (-1 : Int32))) = 0) (zck (zok 100 (WM.2 (σ4.2 a0 19)) (48 : Int32)) (zbd (f_X11_doneOf a0 (σ4.2 a0 19) x1 (σ4.1 (σ4.2 a0 19) (48 : Int32).toNatClampNeg) x4 σ4) (fun r5 σ6 => zbr (r5 = (1 : Int32)) (zbd (f_X11_weightOf a0 x4 σ6) (fun r7 σ8 => f_X11_doneWeight_64 a0 (f_X11_doneWeight_5 a0 n) x1 x4 x2 r7 σ8)) (f_X11_doneWeight_63 a0 (f_X11_doneWeight_5 a0 n) x1 x4 x2 σ6)))) (f_X11_doneWeight_63 a0 (f_X11_doneWeight_5 a0 n) x1 x4 x2 σ4))))
theorem t_X11_doneWeight_5 (X : zX) (d : Nat) (hd : 6 ≤ d + 1) (a0 : Nat) (h0 : WM.2 a0 = (11, 0)) : ∀ (n : Nat) (x1 : Int32) (x2 : Int64) (x4 : Int32) (σ : zS), zK X WM (zrm (d + 1)) M_X11_doneWeight (zZ X WM zeL) 5 [some (.ref a0), some (.int x1), some (.long x2), none, some (.int x4)] [] σ (f_X11_doneWeight_5 a0 n x1 x2 x4 σ) := by
  intro n
  induction n with
  | zero => intro x1 x2 x4 σ; exact z_none
  | succ n ih =>
    intro x1 x2 x4 σ
    rw [f_X11_doneWeight_5]
    refine z_iload4 4 7 rfl rfl ?_
    refine z_iconst 5 8 rfl rfl ci_1 ?_
    refine z_aload0 6 9 rfl rfl ?_
    refine z_getR 7 12 19 rfl rfl zf_X11_32 rfl h0 ?_
    refine z_bipush 8 14 rfl rfl cb_48 ?_
    refine z_iald 9 15 rfl rfl ?_
    refine z_ishl 10 16 rfl rfl ?_
    refine z_icmp_ge 11 19 72 rfl rfl (by decide) ?_ ?_
    · refine z_lload2 41 73 rfl rfl ?_
      exact z_lret 42 rfl rfl
    · refine z_lload2 12 20 rfl rfl ?_
      refine z_iload4 13 22 rfl rfl ?_
      refine z_aload0 14 23 rfl rfl ?_
      refine z_cV0I 15 26 rfl rfl zl_X11_352 F_X11_allRead (zR_rm (by omega)) (c_X11_allRead X d (by omega) a0 σ) ⟨by decide, rfl, rfl⟩ h0 rfl (Nat.le_of_ble_eq_true rfl) (fun r3 σ4 => ?_)
      refine z_iconst 16 27 rfl rfl ci_m1 ?_
      refine z_ixor 17 28 rfl rfl ?_
      refine z_iand 18 29 rfl rfl ?_
      refine z_if_ne 19 32 63 rfl rfl (by decide) ?_ ?_
      · refine z_aload0 20 33 rfl rfl ?_
        refine z_aload0 21 34 rfl rfl ?_
        refine z_getR 22 37 19 rfl rfl zf_X11_32 rfl h0 ?_
        refine z_iload1 23 38 rfl rfl ?_
        refine z_aload0 24 39 rfl rfl ?_
        refine z_getR 25 42 19 rfl rfl zf_X11_32 rfl h0 ?_
        refine z_bipush 26 44 rfl rfl cb_48 ?_
        refine z_iald 27 45 rfl rfl ?_
        refine z_iload4 28 47 rfl rfl ?_
        refine z_cV4I 29 50 rfl rfl zl_X11_308 F_X11_doneOf (zR_rm (by omega)) (c_X11_doneOf X d (by omega) a0 (σ4.2 a0 19) x1 (σ4.1 (σ4.2 a0 19) (48 : Int32).toNatClampNeg) x4 σ4) ⟨by decide, rfl, rfl⟩ h0 rfl (Nat.le_of_ble_eq_true rfl) (fun r5 σ6 => ?_)
        refine z_iconst 30 51 rfl rfl ci_1 ?_
        refine z_icmp_ne 31 54 63 rfl rfl (by decide) ?_ ?_
        · refine z_aload0 32 55 rfl rfl ?_
          refine z_iload4 33 57 rfl rfl ?_
          refine z_cV1L 34 60 rfl rfl zl_X11_450 F_X11_weightOf (zR_rm (by omega)) (c_X11_weightOf X d (by omega) a0 x4 σ6) ⟨by decide, rfl, rfl⟩ h0 rfl (Nat.le_of_ble_eq_true rfl) (fun r7 σ8 => ?_)
          refine z_goto 35 64 rfl (by decide) ?_
          exact z_wk (zle_e (zle_e (zle_n (zle_e (zle_e zle_0))))) (t_X11_doneWeight_64 X d hd a0 h0 (f_X11_doneWeight_5 a0 n) ih x1 x4 x2 r7 σ8)
        · exact z_wk (zle_e (zle_e (zle_n (zle_e (zle_e zle_0))))) (t_X11_doneWeight_63 X d hd a0 h0 (f_X11_doneWeight_5 a0 n) ih x1 x4 x2 σ6)
      · exact z_wk (zle_e (zle_e (zle_n (zle_e (zle_e zle_0))))) (t_X11_doneWeight_63 X d hd a0 h0 (f_X11_doneWeight_5 a0 n) ih x1 x4 x2 σ4)
def f_X11_doneWeight (a0 : Nat) (x1 : Int32) (σ : zS) : Option (Int64 × zS) := zck (WM.2 a0 = (11, 0)) (zlt (0 : Int64) (fun v9 => zlt (0 : Int32) (fun v10 => f_X11_doneWeight_5 a0 FU x1 v9 v10 σ)))
theorem c_X11_doneWeight (X : zX) (d : Nat) (hd : 6 ≤ d) (a0 : Nat) (x1 : Int32) (σ : zS) : ∀ (r : Int64) (σ' : zS), f_X11_doneWeight a0 x1 σ = some (r, σ') → zCN X WM d M_X11_doneWeight [.ref a0, .int x1] σ (zeL r, σ') := by
  obtain ⟨d, rfl⟩ : ∃ e, d = e + 1 := ⟨d - 1, by omega⟩
  refine z_entry [.ref a0, .int x1] (by decide +kernel) T_X11_doneWeight (Nat.le_of_ble_eq_true rfl) ?_
  show zK X WM (zrm (d + 1)) M_X11_doneWeight (zZ X WM zeL) 0 [some (.ref a0), some (.int x1), none, none, none] [] σ (f_X11_doneWeight a0 x1 σ)
  unfold f_X11_doneWeight
  refine z_ck (fun h0 => ?_)
  refine z_lconst 0 1 rfl rfl cl_0 ?_
  refine z_lstore2 1 2 rfl rfl rfl (fun v9 => ?_)
  refine z_iconst 2 3 rfl rfl ci_0 ?_
  refine z_istore4 3 5 rfl rfl rfl (fun v10 => ?_)
  exact t_X11_doneWeight_5 X d hd a0 h0  FU x1 v9 v10 σ
def f_X11_odds (a0 : Nat) (x1 : Int32) (x2 : Int32) (σ : zS) : Option (Int64 × zS) := zck (WM.2 a0 = (11, 0)) (zbd (f_X11_good a0 σ) (fun r1 σ2 => zbd (f_X11_isMatter a0 x1 σ2) (fun r3 σ4 => zbr (r3 = 0) (zbd (f_X11_no a0 (1 : Int32) σ4) (fun r5 σ6 => some ((r5.toInt64), σ6))) (zbd (f_X11_doneWeight a0 x1 σ4) (fun r7 σ8 => zbd (f_X11_allWeight a0 σ8) (fun r9 σ10 => zbd (f_X11_lowest r7 r9 x2 σ10) (fun r11 σ12 => some (r11, σ12))))))))
theorem c_X11_odds (X : zX) (d : Nat) (hd : 7 ≤ d) (a0 : Nat) (x1 : Int32) (x2 : Int32) (σ : zS) : ∀ (r : Int64) (σ' : zS), f_X11_odds a0 x1 x2 σ = some (r, σ') → zCN X WM d M_X11_odds [.ref a0, .int x1, .int x2] σ (zeL r, σ') := by
  obtain ⟨d, rfl⟩ : ∃ e, d = e + 1 := ⟨d - 1, by omega⟩
  refine z_entry [.ref a0, .int x1, .int x2] (by decide +kernel) T_X11_odds (Nat.le_of_ble_eq_true rfl) ?_
  show zK X WM (zrm (d + 1)) M_X11_odds (zZ X WM zeL) 0 [some (.ref a0), some (.int x1), some (.int x2)] [] σ (f_X11_odds a0 x1 x2 σ)
  unfold f_X11_odds
  refine z_ck (fun h0 => ?_)
  refine z_aload0 0 1 rfl rfl ?_
  refine z_cV0V 1 4 rfl rfl zl_X11_178 F_X11_good (zR_rm (by omega)) (c_X11_good X d a0 σ) ⟨by decide, rfl, rfl⟩ h0 rfl (Nat.le_of_ble_eq_true rfl) (fun r1 σ2 => ?_)
  refine z_aload0 2 5 rfl rfl ?_
  refine z_iload1 3 6 rfl rfl ?_
  refine z_cV1I 4 9 rfl rfl zl_X11_336 F_X11_isMatter (zR_rm (by omega)) (c_X11_isMatter X d (by omega) a0 x1 σ2) ⟨by decide, rfl, rfl⟩ h0 rfl (Nat.le_of_ble_eq_true rfl) (fun r3 σ4 => ?_)
  refine z_if_eq 5 12 28 rfl rfl (by decide) ?_ ?_
  · refine z_aload0 14 29 rfl rfl ?_
    refine z_iconst 15 30 rfl rfl ci_1 ?_
    refine z_cV1I 16 33 rfl rfl zl_X11_181 F_X11_no (zR_rm (by omega)) (c_X11_no X d a0 (1 : Int32) σ4) ⟨by decide, rfl, rfl⟩ h0 rfl (Nat.le_of_ble_eq_true rfl) (fun r5 σ6 => ?_)
    refine z_i2l 17 34 rfl rfl ?_
    exact z_lret 18 rfl rfl
  · refine z_aload0 6 13 rfl rfl ?_
    refine z_iload1 7 14 rfl rfl ?_
    refine z_cV1L 8 17 rfl rfl zl_X11_454 F_X11_doneWeight (zR_rm (by omega)) (c_X11_doneWeight X d (by omega) a0 x1 σ4) ⟨by decide, rfl, rfl⟩ h0 rfl (Nat.le_of_ble_eq_true rfl) (fun r7 σ8 => ?_)
    refine z_aload0 9 18 rfl rfl ?_
    refine z_cV0L 10 21 rfl rfl zl_X11_457 F_X11_allWeight (zR_rm (by omega)) (c_X11_allWeight X d (by omega) a0 σ8) ⟨by decide, rfl, rfl⟩ h0 rfl (Nat.le_of_ble_eq_true rfl) (fun r9 σ10 => ?_)
    refine z_iload2 11 22 rfl rfl ?_
    refine z_cS3L 12 25 rfl rfl zl_X11_461 F_X11_lowest (zR_rm (by omega)) (c_X11_lowest X d r7 r9 x2 σ10) rfl (Nat.le_of_ble_eq_true rfl) (fun r11 σ12 => ?_)
    refine z_goto 13 34 rfl (by decide) ?_
    exact z_lret 18 rfl rfl
def f_X11_standOdds_82 (a0 : Nat) (H24 : Int32 → Int32 → Int64 → Int32 → zS → Option (Int64 × zS)) (x1 : Int32) (x2 : Int32) (x5 : Int32) (s0 : Int64) (s1 : Int64) (σ : zS) : Option (Int64 × zS) := zlt (s0 + s1) (fun v1 => zlt (x5 + (1 : Int32)) (fun v2 => H24 x1 x2 v1 v2 σ))
theorem t_X11_standOdds_82 (X : zX) (d : Nat) (hd : 5 ≤ d + 1) (a0 : Nat) (h0 : WM.2 a0 = (11, 0)) (H24 : Int32 → Int32 → Int64 → Int32 → zS → Option (Int64 × zS)) (hH24 : ∀ (x1 : Int32) (x2 : Int32) (x3 : Int64) (x5 : Int32) (σ : zS), zK X WM (zrm (d + 1)) M_X11_standOdds (zZ X WM zeL) 24 [some (.ref a0), some (.int x1), some (.int x2), some (.long x3), none, some (.int x5)] [] σ (H24 x1 x2 x3 x5 σ)) (x1 : Int32) (x2 : Int32) (x5 : Int32) (s0 : Int64) (s1 : Int64) (σ : zS) : zK X WM (zrm (d + 1)) M_X11_standOdds (zZ X WM zeL) 82 [some (.ref a0), some (.int x1), some (.int x2), none, none, some (.int x5)] [.long s1, .long s0] σ (f_X11_standOdds_82 a0 H24 x1 x2 x5 s0 s1 σ) := by
  unfold f_X11_standOdds_82
  refine z_ladd 49 83 rfl rfl ?_
  refine z_lstore3 50 84 rfl rfl rfl (fun v1 => ?_)
  refine z_iinc5 51 87 rfl rfl ci_1 rfl (fun v2 => ?_)
  refine z_goto 52 24 rfl (by decide) ?_
  exact hH24 x1 x2 v1 v2 σ
def f_X11_standOdds_81 (a0 : Nat) (H24 : Int32 → Int32 → Int64 → Int32 → zS → Option (Int64 × zS)) (x1 : Int32) (x2 : Int32) (x5 : Int32) (s0 : Int64) (σ : zS) : Option (Int64 × zS) := f_X11_standOdds_82 a0 H24 x1 x2 x5 s0 (0 : Int64) σ
theorem t_X11_standOdds_81 (X : zX) (d : Nat) (hd : 5 ≤ d + 1) (a0 : Nat) (h0 : WM.2 a0 = (11, 0)) (H24 : Int32 → Int32 → Int64 → Int32 → zS → Option (Int64 × zS)) (hH24 : ∀ (x1 : Int32) (x2 : Int32) (x3 : Int64) (x5 : Int32) (σ : zS), zK X WM (zrm (d + 1)) M_X11_standOdds (zZ X WM zeL) 24 [some (.ref a0), some (.int x1), some (.int x2), some (.long x3), none, some (.int x5)] [] σ (H24 x1 x2 x3 x5 σ)) (x1 : Int32) (x2 : Int32) (x5 : Int32) (s0 : Int64) (σ : zS) : zK X WM (zrm (d + 1)) M_X11_standOdds (zZ X WM zeL) 81 [some (.ref a0), some (.int x1), some (.int x2), none, none, some (.int x5)] [.long s0] σ (f_X11_standOdds_81 a0 H24 x1 x2 x5 s0 σ) := by
  unfold f_X11_standOdds_81
  refine z_lconst 48 82 rfl rfl cl_0 ?_
  exact t_X11_standOdds_82 X d hd a0 h0 H24 hH24 x1 x2 x5 s0 (0 : Int64) σ
def f_X11_standOdds_24 (a0 : Nat) : Nat → Int32 → Int32 → Int64 → Int32 → zS → Option (Int64 × zS)
  | 0, _, _, _, _, _ => none
  | n + 1, x1, x2, x3, x5, σ => zck (zok 100 (WM.2 (σ.2 a0 19)) (48 : Int32)) (zbr (((1 : Int32) <<< ((σ.1 (σ.2 a0 19) (48 : Int32).toNatClampNeg) &&& 31)) ≤ x5) (zbd (f_X11_allWeight a0 σ) (fun r3 σ4 => zbd (f_X11_lowest x3 r3 x2 σ4) (fun r5 σ6 => some (r5, σ6)))) (zbd (f_X11_allRead a0 σ) (fun r7 σ8 => zbr ((x5 &&& (r7 ^^^ (-1 : Int32))) = 0) (zck (zok 100 (WM.2 (σ8.2 a0 19)) (((6 : Int32) * x1) + (2 : Int32))) (zbd (f_X11_standsOf a0 (σ8.1 (σ8.2 a0 19) (((6 : Int32) * x1) + (2 : Int32)).toNatClampNeg) x5 σ8) (fun r9 σ10 => zbr (r9 = x1) (zbd (f_X11_weightOf a0 x5 σ10) (fun r11 σ12 => f_X11_standOdds_82 a0 (f_X11_standOdds_24 a0 n) x1 x2 x5 x3 r11 σ12)) (f_X11_standOdds_81 a0 (f_X11_standOdds_24 a0 n) x1 x2 x5 x3 σ10)))) (f_X11_standOdds_81 a0 (f_X11_standOdds_24 a0 n) x1 x2 x5 x3 σ8))))
theorem t_X11_standOdds_24 (X : zX) (d : Nat) (hd : 5 ≤ d + 1) (a0 : Nat) (h0 : WM.2 a0 = (11, 0)) : ∀ (n : Nat) (x1 : Int32) (x2 : Int32) (x3 : Int64) (x5 : Int32) (σ : zS), zK X WM (zrm (d + 1)) M_X11_standOdds (zZ X WM zeL) 24 [some (.ref a0), some (.int x1), some (.int x2), some (.long x3), none, some (.int x5)] [] σ (f_X11_standOdds_24 a0 n x1 x2 x3 x5 σ) := by
  intro n
  induction n with
  | zero => intro x1 x2 x3 x5 σ; exact z_none
  | succ n ih =>
    intro x1 x2 x3 x5 σ
    rw [f_X11_standOdds_24]
    refine z_iload5 15 26 rfl rfl ?_
    refine z_iconst 16 27 rfl rfl ci_1 ?_
    refine z_aload0 17 28 rfl rfl ?_
    refine z_getR 18 31 19 rfl rfl zf_X11_32 rfl h0 ?_
    refine z_bipush 19 33 rfl rfl cb_48 ?_
    refine z_iald 20 34 rfl rfl ?_
    refine z_ishl 21 35 rfl rfl ?_
    refine z_icmp_ge 22 38 90 rfl rfl (by decide) ?_ ?_
    · refine z_lload3 53 91 rfl rfl ?_
      refine z_aload0 54 92 rfl rfl ?_
      refine z_cV0L 55 95 rfl rfl zl_X11_457 F_X11_allWeight (zR_rm (by omega)) (c_X11_allWeight X d (by omega) a0 σ) ⟨by decide, rfl, rfl⟩ h0 rfl (Nat.le_of_ble_eq_true rfl) (fun r3 σ4 => ?_)
      refine z_iload2 56 96 rfl rfl ?_
      refine z_cS3L 57 99 rfl rfl zl_X11_461 F_X11_lowest (zR_rm (by omega)) (c_X11_lowest X d x3 r3 x2 σ4) rfl (Nat.le_of_ble_eq_true rfl) (fun r5 σ6 => ?_)
      exact z_lret 58 rfl rfl
    · refine z_lload3 23 39 rfl rfl ?_
      refine z_iload5 24 41 rfl rfl ?_
      refine z_aload0 25 42 rfl rfl ?_
      refine z_cV0I 26 45 rfl rfl zl_X11_352 F_X11_allRead (zR_rm (by omega)) (c_X11_allRead X d (by omega) a0 σ) ⟨by decide, rfl, rfl⟩ h0 rfl (Nat.le_of_ble_eq_true rfl) (fun r7 σ8 => ?_)
      refine z_iconst 27 46 rfl rfl ci_m1 ?_
      refine z_ixor 28 47 rfl rfl ?_
      refine z_iand 29 48 rfl rfl ?_
      refine z_if_ne 30 51 81 rfl rfl (by decide) ?_ ?_
      · refine z_aload0 31 52 rfl rfl ?_
        refine z_aload0 32 53 rfl rfl ?_
        refine z_getR 33 56 19 rfl rfl zf_X11_32 rfl h0 ?_
        refine z_bipush 34 58 rfl rfl cb_6 ?_
        refine z_iload1 35 59 rfl rfl ?_
        refine z_imul 36 60 rfl rfl ?_
        refine z_iconst 37 61 rfl rfl ci_2 ?_
        refine z_iadd 38 62 rfl rfl ?_
        refine z_iald 39 63 rfl rfl ?_
        refine z_iload5 40 65 rfl rfl ?_
        refine z_cV2I 41 68 rfl rfl zl_X11_321 F_X11_standsOf (zR_rm (by omega)) (c_X11_standsOf X d (by omega) a0 (σ8.1 (σ8.2 a0 19) (((6 : Int32) * x1) + (2 : Int32)).toNatClampNeg) x5 σ8) ⟨by decide, rfl, rfl⟩ h0 rfl (Nat.le_of_ble_eq_true rfl) (fun r9 σ10 => ?_)
        refine z_iload1 42 69 rfl rfl ?_
        refine z_icmp_ne 43 72 81 rfl rfl (by decide) ?_ ?_
        · refine z_aload0 44 73 rfl rfl ?_
          refine z_iload5 45 75 rfl rfl ?_
          refine z_cV1L 46 78 rfl rfl zl_X11_450 F_X11_weightOf (zR_rm (by omega)) (c_X11_weightOf X d (by omega) a0 x5 σ10) ⟨by decide, rfl, rfl⟩ h0 rfl (Nat.le_of_ble_eq_true rfl) (fun r11 σ12 => ?_)
          refine z_goto 47 82 rfl (by decide) ?_
          exact z_wk (zle_e (zle_e (zle_e (zle_n (zle_e (zle_e zle_0)))))) (t_X11_standOdds_82 X d hd a0 h0 (f_X11_standOdds_24 a0 n) ih x1 x2 x5 x3 r11 σ12)
        · exact z_wk (zle_e (zle_e (zle_e (zle_n (zle_e (zle_e zle_0)))))) (t_X11_standOdds_81 X d hd a0 h0 (f_X11_standOdds_24 a0 n) ih x1 x2 x5 x3 σ10)
      · exact z_wk (zle_e (zle_e (zle_e (zle_n (zle_e (zle_e zle_0)))))) (t_X11_standOdds_81 X d hd a0 h0 (f_X11_standOdds_24 a0 n) ih x1 x2 x5 x3 σ8)
def f_X11_standOdds (a0 : Nat) (x1 : Int32) (x2 : Int32) (σ : zS) : Option (Int64 × zS) := zck (WM.2 a0 = (11, 0)) (zbd (f_X11_good a0 σ) (fun r13 σ14 => zbd (f_X11_isLine a0 x1 σ14) (fun r15 σ16 => zbr (r15 = 0) (zbd (f_X11_no a0 (1 : Int32) σ16) (fun r17 σ18 => some ((r17.toInt64), σ18))) (zlt (0 : Int64) (fun v19 => zlt (0 : Int32) (fun v20 => f_X11_standOdds_24 a0 FU x1 x2 v19 v20 σ16))))))
theorem c_X11_standOdds (X : zX) (d : Nat) (hd : 5 ≤ d) (a0 : Nat) (x1 : Int32) (x2 : Int32) (σ : zS) : ∀ (r : Int64) (σ' : zS), f_X11_standOdds a0 x1 x2 σ = some (r, σ') → zCN X WM d M_X11_standOdds [.ref a0, .int x1, .int x2] σ (zeL r, σ') := by
  obtain ⟨d, rfl⟩ : ∃ e, d = e + 1 := ⟨d - 1, by omega⟩
  refine z_entry [.ref a0, .int x1, .int x2] (by decide +kernel) T_X11_standOdds (Nat.le_of_ble_eq_true rfl) ?_
  show zK X WM (zrm (d + 1)) M_X11_standOdds (zZ X WM zeL) 0 [some (.ref a0), some (.int x1), some (.int x2), none, none, none] [] σ (f_X11_standOdds a0 x1 x2 σ)
  unfold f_X11_standOdds
  refine z_ck (fun h0 => ?_)
  refine z_aload0 0 1 rfl rfl ?_
  refine z_cV0V 1 4 rfl rfl zl_X11_178 F_X11_good (zR_rm (by omega)) (c_X11_good X d a0 σ) ⟨by decide, rfl, rfl⟩ h0 rfl (Nat.le_of_ble_eq_true rfl) (fun r13 σ14 => ?_)
  refine z_aload0 2 5 rfl rfl ?_
  refine z_iload1 3 6 rfl rfl ?_
  refine z_cV1I 4 9 rfl rfl zl_X11_330 F_X11_isLine (zR_rm (by omega)) (c_X11_isLine X d (by omega) a0 x1 σ14) ⟨by decide, rfl, rfl⟩ h0 rfl (Nat.le_of_ble_eq_true rfl) (fun r15 σ16 => ?_)
  refine z_if_ne 5 12 19 rfl rfl (by decide) ?_ ?_
  · refine z_aload0 6 13 rfl rfl ?_
    refine z_iconst 7 14 rfl rfl ci_1 ?_
    refine z_cV1I 8 17 rfl rfl zl_X11_181 F_X11_no (zR_rm (by omega)) (c_X11_no X d a0 (1 : Int32) σ16) ⟨by decide, rfl, rfl⟩ h0 rfl (Nat.le_of_ble_eq_true rfl) (fun r17 σ18 => ?_)
    refine z_i2l 9 18 rfl rfl ?_
    exact z_lret 10 rfl rfl
  · refine z_lconst 11 20 rfl rfl cl_0 ?_
    refine z_lstore3 12 21 rfl rfl rfl (fun v19 => ?_)
    refine z_iconst 13 22 rfl rfl ci_0 ?_
    refine z_istore5 14 24 rfl rfl rfl (fun v20 => ?_)
    exact t_X11_standOdds_24 X d hd a0 h0  FU x1 x2 v19 v20 σ16
def f_X11_mean_23 (a0 : Nat) : Nat → Int32 → Int64 → Int32 → zS → Option (Int64 × zS)
  | 0, _, _, _, _ => none
  | n + 1, x1, x2, x4, σ => zck (zok 100 (WM.2 (σ.2 a0 15)) (4 : Int32)) (zbr ((σ.1 (σ.2 a0 15) (4 : Int32).toNatClampNeg) ≤ x4) (zbd (f_X11_allWeight a0 σ) (fun r1 σ2 => zbd (f_X11_lowest x2 r1 x1 σ2) (fun r3 σ4 => some (r3, σ4)))) (zbd (f_X11_doneWeight a0 x4 σ) (fun r5 σ6 => zlt (x2 + r5) (fun v7 => zlt (x4 + (1 : Int32)) (fun v8 => f_X11_mean_23 a0 n x1 v7 v8 σ6)))))
theorem t_X11_mean_23 (X : zX) (d : Nat) (hd : 7 ≤ d + 1) (a0 : Nat) (h0 : WM.2 a0 = (11, 0)) : ∀ (n : Nat) (x1 : Int32) (x2 : Int64) (x4 : Int32) (σ : zS), zK X WM (zrm (d + 1)) M_X11_mean (zZ X WM zeL) 23 [some (.ref a0), some (.int x1), some (.long x2), none, some (.int x4)] [] σ (f_X11_mean_23 a0 n x1 x2 x4 σ) := by
  intro n
  induction n with
  | zero => intro x1 x2 x4 σ; exact z_none
  | succ n ih =>
    intro x1 x2 x4 σ
    rw [f_X11_mean_23]
    refine z_iload4 14 25 rfl rfl ?_
    refine z_aload0 15 26 rfl rfl ?_
    refine z_getR 16 29 15 rfl rfl zf_X11_20 rfl h0 ?_
    refine z_iconst 17 30 rfl rfl ci_4 ?_
    refine z_iald 18 31 rfl rfl ?_
    refine z_icmp_ge 19 34 49 rfl rfl (by decide) ?_ ?_
    · refine z_lload2 28 50 rfl rfl ?_
      refine z_aload0 29 51 rfl rfl ?_
      refine z_cV0L 30 54 rfl rfl zl_X11_457 F_X11_allWeight (zR_rm (by omega)) (c_X11_allWeight X d (by omega) a0 σ) ⟨by decide, rfl, rfl⟩ h0 rfl (Nat.le_of_ble_eq_true rfl) (fun r1 σ2 => ?_)
      refine z_iload1 31 55 rfl rfl ?_
      refine z_cS3L 32 58 rfl rfl zl_X11_461 F_X11_lowest (zR_rm (by omega)) (c_X11_lowest X d x2 r1 x1 σ2) rfl (Nat.le_of_ble_eq_true rfl) (fun r3 σ4 => ?_)
      exact z_lret 33 rfl rfl
    · refine z_lload2 20 35 rfl rfl ?_
      refine z_aload0 21 36 rfl rfl ?_
      refine z_iload4 22 38 rfl rfl ?_
      refine z_cV1L 23 41 rfl rfl zl_X11_454 F_X11_doneWeight (zR_rm (by omega)) (c_X11_doneWeight X d (by omega) a0 x4 σ) ⟨by decide, rfl, rfl⟩ h0 rfl (Nat.le_of_ble_eq_true rfl) (fun r5 σ6 => ?_)
      refine z_ladd 24 42 rfl rfl ?_
      refine z_lstore2 25 43 rfl rfl rfl (fun v7 => ?_)
      refine z_iinc4 26 46 rfl rfl ci_1 rfl (fun v8 => ?_)
      refine z_goto 27 23 rfl (by decide) ?_
      exact ih x1 v7 v8 σ6
def f_X11_mean (a0 : Nat) (x1 : Int32) (σ : zS) : Option (Int64 × zS) := zck (WM.2 a0 = (11, 0)) (zbd (f_X11_good a0 σ) (fun r9 σ10 => zbr ((σ10.1 a0 14) = 0) (zbd (f_X11_no a0 (1 : Int32) σ10) (fun r11 σ12 => some ((r11.toInt64), σ12))) (zlt (0 : Int64) (fun v13 => zlt (0 : Int32) (fun v14 => f_X11_mean_23 a0 FU x1 v13 v14 σ10)))))
theorem c_X11_mean (X : zX) (d : Nat) (hd : 7 ≤ d) (a0 : Nat) (x1 : Int32) (σ : zS) : ∀ (r : Int64) (σ' : zS), f_X11_mean a0 x1 σ = some (r, σ') → zCN X WM d M_X11_mean [.ref a0, .int x1] σ (zeL r, σ') := by
  obtain ⟨d, rfl⟩ : ∃ e, d = e + 1 := ⟨d - 1, by omega⟩
  refine z_entry [.ref a0, .int x1] (by decide +kernel) T_X11_mean (Nat.le_of_ble_eq_true rfl) ?_
  show zK X WM (zrm (d + 1)) M_X11_mean (zZ X WM zeL) 0 [some (.ref a0), some (.int x1), none, none, none] [] σ (f_X11_mean a0 x1 σ)
  unfold f_X11_mean
  refine z_ck (fun h0 => ?_)
  refine z_aload0 0 1 rfl rfl ?_
  refine z_cV0V 1 4 rfl rfl zl_X11_178 F_X11_good (zR_rm (by omega)) (c_X11_good X d a0 σ) ⟨by decide, rfl, rfl⟩ h0 rfl (Nat.le_of_ble_eq_true rfl) (fun r9 σ10 => ?_)
  refine z_aload0 2 5 rfl rfl ?_
  refine z_getI 3 8 14 rfl rfl zf_X11_191 rfl h0 ?_
  refine z_if_ne 4 11 18 rfl rfl (by decide) ?_ ?_
  · refine z_aload0 5 12 rfl rfl ?_
    refine z_iconst 6 13 rfl rfl ci_1 ?_
    refine z_cV1I 7 16 rfl rfl zl_X11_181 F_X11_no (zR_rm (by omega)) (c_X11_no X d a0 (1 : Int32) σ10) ⟨by decide, rfl, rfl⟩ h0 rfl (Nat.le_of_ble_eq_true rfl) (fun r11 σ12 => ?_)
    refine z_i2l 8 17 rfl rfl ?_
    exact z_lret 9 rfl rfl
  · refine z_lconst 10 19 rfl rfl cl_0 ?_
    refine z_lstore2 11 20 rfl rfl rfl (fun v13 => ?_)
    refine z_iconst 12 21 rfl rfl ci_0 ?_
    refine z_istore4 13 23 rfl rfl rfl (fun v14 => ?_)
    exact t_X11_mean_23 X d hd a0 h0  FU x1 v13 v14 σ10
def f_X11_thumbWhy_122 (a0 : Nat) (H40 : Int32 → Int32 → Int32 → zS → Option (Int32 × zS)) (x3 : Int32) (x4 : Int32) (x5 : Int32) (σ : zS) : Option (Int32 × zS) := zlt (x5 + (1 : Int32)) (fun v1 => H40 x3 x4 v1 σ)
theorem t_X11_thumbWhy_122 (X : zX) (d : Nat) (hd : 1 ≤ d + 1) (a0 : Nat) (h0 : WM.2 a0 = (11, 0)) (H40 : Int32 → Int32 → Int32 → zS → Option (Int32 × zS)) (hH40 : ∀ (x3 : Int32) (x4 : Int32) (x5 : Int32) (σ : zS), zK X WM (zrm (d + 1)) M_X11_thumbWhy (zZ X WM zeI) 40 [some (.ref a0), none, none, some (.int x3), some (.int x4), some (.int x5)] [] σ (H40 x3 x4 x5 σ)) (x3 : Int32) (x4 : Int32) (x5 : Int32) (σ : zS) : zK X WM (zrm (d + 1)) M_X11_thumbWhy (zZ X WM zeI) 122 [some (.ref a0), none, none, some (.int x3), some (.int x4), some (.int x5)] [] σ (f_X11_thumbWhy_122 a0 H40 x3 x4 x5 σ) := by
  unfold f_X11_thumbWhy_122
  refine z_iinc5 69 125 rfl rfl ci_1 rfl (fun v1 => ?_)
  refine z_goto 70 40 rfl (by decide) ?_
  exact hH40 x3 x4 v1 σ
def f_X11_thumbWhy_40 (a0 : Nat) : Nat → Int32 → Int32 → Int32 → zS → Option (Int32 × zS)
  | 0, _, _, _, _ => none
  | n + 1, x3, x4, x5, σ => zbr (x3 ≤ x5) (some ((0 : Int32), σ)) (zck (¬ (65537 : Int32) = 0) (zlt ((((75 : Int32) * x4) + (74 : Int32)) - (((75 : Int32) * x4) + (74 : Int32)) / (65537 : Int32) * (65537 : Int32)) (fun v3 => zck (¬ (100 : Int32) = 0) (zck (zok 100 (WM.2 (σ.2 a0 15)) (0 : Int32)) (zbr ((σ.1 (σ.2 a0 15) (0 : Int32).toNatClampNeg) ≤ (v3 - v3 / (100 : Int32) * (100 : Int32))) (f_X11_thumbWhy_122 a0 (f_X11_thumbWhy_40 a0 n) x3 v3 x5 σ) (zck (zok 100 (WM.2 (σ.2 a0 19)) (48 : Int32)) (zbr ((σ.1 (σ.2 a0 19) (48 : Int32).toNatClampNeg) = 0) (f_X11_thumbWhy_122 a0 (f_X11_thumbWhy_40 a0 n) x3 v3 x5 σ) (zck (¬ (65537 : Int32) = 0) (zlt ((((75 : Int32) * v3) + (74 : Int32)) - (((75 : Int32) * v3) + (74 : Int32)) / (65537 : Int32) * (65537 : Int32)) (fun v6 => zck (zok 100 (WM.2 (σ.2 a0 19)) (48 : Int32)) (zck (¬ (σ.1 (σ.2 a0 19) (48 : Int32).toNatClampNeg) = 0) (zlt (zpi σ a0 39 ((σ.1 a0 39) ||| ((1 : Int32) <<< ((v6 - v6 / (σ.1 (σ.2 a0 19) (48 : Int32).toNatClampNeg) * (σ.1 (σ.2 a0 19) (48 : Int32).toNatClampNeg)) &&& 31)))) (fun σ8 => f_X11_thumbWhy_122 a0 (f_X11_thumbWhy_40 a0 n) x3 v6 x5 σ8)))))))))))))
theorem t_X11_thumbWhy_40 (X : zX) (d : Nat) (hd : 1 ≤ d + 1) (a0 : Nat) (h0 : WM.2 a0 = (11, 0)) : ∀ (n : Nat) (x3 : Int32) (x4 : Int32) (x5 : Int32) (σ : zS), zK X WM (zrm (d + 1)) M_X11_thumbWhy (zZ X WM zeI) 40 [some (.ref a0), none, none, some (.int x3), some (.int x4), some (.int x5)] [] σ (f_X11_thumbWhy_40 a0 n x3 x4 x5 σ) := by
  intro n
  induction n with
  | zero => intro x3 x4 x5 σ; exact z_none
  | succ n ih =>
    intro x3 x4 x5 σ
    rw [f_X11_thumbWhy_40]
    refine z_iload5 23 42 rfl rfl ?_
    refine z_iload3 24 43 rfl rfl ?_
    refine z_icmp_ge 25 46 128 rfl rfl (by decide) ?_ ?_
    · refine z_iconst 71 129 rfl rfl ci_0 ?_
      exact z_iret 72 rfl rfl
    · refine z_bipush 26 48 rfl rfl cb_75 ?_
      refine z_iload4 27 50 rfl rfl ?_
      refine z_imul 28 51 rfl rfl ?_
      refine z_bipush 29 53 rfl rfl cb_74 ?_
      refine z_iadd 30 54 rfl rfl ?_
      refine z_ldcwI 31 57 rfl rfl (v := (65537 : Int32)) (zTT_in (i := 1967) (by decide +kernel) rfl) ?_
      refine z_ck (fun h2 => ?_)
      refine z_irem 32 58 rfl rfl h2 ?_
      refine z_istore4 33 60 rfl rfl rfl (fun v3 => ?_)
      refine z_iload4 34 62 rfl rfl ?_
      refine z_bipush 35 64 rfl rfl cb_100 ?_
      refine z_ck (fun h4 => ?_)
      refine z_irem 36 65 rfl rfl h4 ?_
      refine z_aload0 37 66 rfl rfl ?_
      refine z_getR 38 69 15 rfl rfl zf_X11_20 rfl h0 ?_
      refine z_iconst 39 70 rfl rfl ci_0 ?_
      refine z_iald 40 71 rfl rfl ?_
      refine z_icmp_ge 41 74 122 rfl rfl (by decide) ?_ ?_
      · exact t_X11_thumbWhy_122 X d hd a0 h0 (f_X11_thumbWhy_40 a0 n) ih x3 v3 x5 σ
      · refine z_aload0 42 75 rfl rfl ?_
        refine z_getR 43 78 19 rfl rfl zf_X11_32 rfl h0 ?_
        refine z_bipush 44 80 rfl rfl cb_48 ?_
        refine z_iald 45 81 rfl rfl ?_
        refine z_if_ne 46 84 87 rfl rfl (by decide) ?_ ?_
        · refine z_goto 47 122 rfl (by decide) ?_
          exact t_X11_thumbWhy_122 X d hd a0 h0 (f_X11_thumbWhy_40 a0 n) ih x3 v3 x5 σ
        · refine z_bipush 48 89 rfl rfl cb_75 ?_
          refine z_iload4 49 91 rfl rfl ?_
          refine z_imul 50 92 rfl rfl ?_
          refine z_bipush 51 94 rfl rfl cb_74 ?_
          refine z_iadd 52 95 rfl rfl ?_
          refine z_ldcwI 53 98 rfl rfl (v := (65537 : Int32)) (zTT_in (i := 1967) (by decide +kernel) rfl) ?_
          refine z_ck (fun h5 => ?_)
          refine z_irem 54 99 rfl rfl h5 ?_
          refine z_istore4 55 101 rfl rfl rfl (fun v6 => ?_)
          refine z_aload0 56 102 rfl rfl ?_
          refine z_dup 57 103 rfl rfl rfl ?_
          refine z_getI 58 106 39 rfl rfl zf_X11_466 rfl h0 ?_
          refine z_iconst 59 107 rfl rfl ci_1 ?_
          refine z_iload4 60 109 rfl rfl ?_
          refine z_aload0 61 110 rfl rfl ?_
          refine z_getR 62 113 19 rfl rfl zf_X11_32 rfl h0 ?_
          refine z_bipush 63 115 rfl rfl cb_48 ?_
          refine z_iald 64 116 rfl rfl ?_
          refine z_ck (fun h7 => ?_)
          refine z_irem 65 117 rfl rfl h7 ?_
          refine z_ishl 66 118 rfl rfl ?_
          refine z_ior 67 119 rfl rfl ?_
          refine z_putI 68 122 39 rfl rfl zf_X11_466 rfl rfl rfl h0 (fun σ8 => ?_)
          exact t_X11_thumbWhy_122 X d hd a0 h0 (f_X11_thumbWhy_40 a0 n) ih x3 v6 x5 σ8
def f_X11_thumbWhy (a0 : Nat) (x1 : Int32) (x2 : Int32) (x3 : Int32) (σ : zS) : Option (Int32 × zS) := zck (WM.2 a0 = (11, 0)) (zbr (x1 = 0) (some ((1 : Int32), σ)) (zbd (f_X11_in x2 (0 : Int32) (65536 : Int32) σ) (fun r9 σ10 => zbr (r9 = 0) (some ((2 : Int32), σ10)) (zbd (f_X11_in x3 (0 : Int32) (60 : Int32) σ10) (fun r11 σ12 => zbr (r11 = 0) (some ((2 : Int32), σ12)) (zlt (zpi σ12 a0 39 (0 : Int32)) (fun σ13 => zlt x2 (fun v14 => zlt (0 : Int32) (fun v15 => f_X11_thumbWhy_40 a0 FU x3 v14 v15 σ13)))))))))
theorem c_X11_thumbWhy (X : zX) (d : Nat) (hd : 1 ≤ d) (a0 : Nat) (x1 : Int32) (x2 : Int32) (x3 : Int32) (σ : zS) : ∀ (r : Int32) (σ' : zS), f_X11_thumbWhy a0 x1 x2 x3 σ = some (r, σ') → zCN X WM d M_X11_thumbWhy [.ref a0, .int x1, .int x2, .int x3] σ (zeI r, σ') := by
  obtain ⟨d, rfl⟩ : ∃ e, d = e + 1 := ⟨d - 1, by omega⟩
  refine z_entry [.ref a0, .int x1, .int x2, .int x3] (by decide +kernel) T_X11_thumbWhy (Nat.le_of_ble_eq_true rfl) ?_
  show zK X WM (zrm (d + 1)) M_X11_thumbWhy (zZ X WM zeI) 0 [some (.ref a0), some (.int x1), some (.int x2), some (.int x3), none, none] [] σ (f_X11_thumbWhy a0 x1 x2 x3 σ)
  unfold f_X11_thumbWhy
  refine z_ck (fun h0 => ?_)
  refine z_iload1 0 1 rfl rfl ?_
  refine z_if_ne 1 4 6 rfl rfl (by decide) ?_ ?_
  · refine z_iconst 2 5 rfl rfl ci_1 ?_
    exact z_iret 3 rfl rfl
  · refine z_iload2 4 7 rfl rfl ?_
    refine z_iconst 5 8 rfl rfl ci_0 ?_
    refine z_ldcwI 6 11 rfl rfl (v := (65536 : Int32)) (zTT_in (i := 1966) (by decide +kernel) rfl) ?_
    refine z_cS3I 7 14 rfl rfl zl_X11_157 F_X11_in (zR_rm (by omega)) (c_X11_in X d x2 (0 : Int32) (65536 : Int32) σ) rfl (Nat.le_of_ble_eq_true rfl) (fun r9 σ10 => ?_)
    refine z_if_eq 8 17 27 rfl rfl (by decide) ?_ ?_
    · refine z_iconst 14 28 rfl rfl ci_2 ?_
      exact z_iret 15 rfl rfl
    · refine z_iload3 9 18 rfl rfl ?_
      refine z_iconst 10 19 rfl rfl ci_0 ?_
      refine z_bipush 11 21 rfl rfl cb_60 ?_
      refine z_cS3I 12 24 rfl rfl zl_X11_157 F_X11_in (zR_rm (by omega)) (c_X11_in X d x3 (0 : Int32) (60 : Int32) σ10) rfl (Nat.le_of_ble_eq_true rfl) (fun r11 σ12 => ?_)
      refine z_if_ne 13 27 29 rfl rfl (by decide) ?_ ?_
      · refine z_iconst 14 28 rfl rfl ci_2 ?_
        exact z_iret 15 rfl rfl
      · refine z_aload0 16 30 rfl rfl ?_
        refine z_iconst 17 31 rfl rfl ci_0 ?_
        refine z_putI 18 34 39 rfl rfl zf_X11_466 rfl rfl rfl h0 (fun σ13 => ?_)
        refine z_iload2 19 35 rfl rfl ?_
        refine z_istore4 20 37 rfl rfl rfl (fun v14 => ?_)
        refine z_iconst 21 38 rfl rfl ci_0 ?_
        refine z_istore5 22 40 rfl rfl rfl (fun v15 => ?_)
        exact z_wk (zle_e (zle_n (zle_n (zle_e (zle_e (zle_e zle_0)))))) (t_X11_thumbWhy_40 X d hd a0 h0  FU x3 v14 v15 σ13)
def f_X11_thumbs (a0 : Nat) (x1 : Int32) (x2 : Int32) (x3 : Int32) (σ : zS) : Option (Int32 × zS) := zck (WM.2 a0 = (11, 0)) (zbd (f_X11_good a0 σ) (fun r1 σ2 => zbd (f_X11_isMatter a0 x1 σ2) (fun r3 σ4 => zbd (f_X11_thumbWhy a0 r3 x2 x3 σ4) (fun r5 σ6 => zlt r5 (fun v7 => zbr (v7 = 0) (zck (zok 100 (WM.2 (σ6.2 a0 19)) (48 : Int32)) (zbd (f_X11_doneOf a0 (σ6.2 a0 19) x1 (σ6.1 (σ6.2 a0 19) (48 : Int32).toNatClampNeg) (σ6.1 a0 39) σ6) (fun r8 σ9 => some (r8, σ9)))) (zbd (f_X11_no a0 v7 σ6) (fun r10 σ11 => some (r10, σ11))))))))
theorem c_X11_thumbs (X : zX) (d : Nat) (hd : 6 ≤ d) (a0 : Nat) (x1 : Int32) (x2 : Int32) (x3 : Int32) (σ : zS) : ∀ (r : Int32) (σ' : zS), f_X11_thumbs a0 x1 x2 x3 σ = some (r, σ') → zCN X WM d M_X11_thumbs [.ref a0, .int x1, .int x2, .int x3] σ (zeI r, σ') := by
  obtain ⟨d, rfl⟩ : ∃ e, d = e + 1 := ⟨d - 1, by omega⟩
  refine z_entry [.ref a0, .int x1, .int x2, .int x3] (by decide +kernel) T_X11_thumbs (Nat.le_of_ble_eq_true rfl) ?_
  show zK X WM (zrm (d + 1)) M_X11_thumbs (zZ X WM zeI) 0 [some (.ref a0), some (.int x1), some (.int x2), some (.int x3), none] [] σ (f_X11_thumbs a0 x1 x2 x3 σ)
  unfold f_X11_thumbs
  refine z_ck (fun h0 => ?_)
  refine z_aload0 0 1 rfl rfl ?_
  refine z_cV0V 1 4 rfl rfl zl_X11_178 F_X11_good (zR_rm (by omega)) (c_X11_good X d a0 σ) ⟨by decide, rfl, rfl⟩ h0 rfl (Nat.le_of_ble_eq_true rfl) (fun r1 σ2 => ?_)
  refine z_aload0 2 5 rfl rfl ?_
  refine z_aload0 3 6 rfl rfl ?_
  refine z_iload1 4 7 rfl rfl ?_
  refine z_cV1I 5 10 rfl rfl zl_X11_336 F_X11_isMatter (zR_rm (by omega)) (c_X11_isMatter X d (by omega) a0 x1 σ2) ⟨by decide, rfl, rfl⟩ h0 rfl (Nat.le_of_ble_eq_true rfl) (fun r3 σ4 => ?_)
  refine z_iload2 6 11 rfl rfl ?_
  refine z_iload3 7 12 rfl rfl ?_
  refine z_cV3I 8 15 rfl rfl zl_X11_470 F_X11_thumbWhy (zR_rm (by omega)) (c_X11_thumbWhy X d (by omega) a0 r3 x2 x3 σ4) ⟨by decide, rfl, rfl⟩ h0 rfl (Nat.le_of_ble_eq_true rfl) (fun r5 σ6 => ?_)
  refine z_istore4 9 17 rfl rfl rfl (fun v7 => ?_)
  refine z_iload4 10 19 rfl rfl ?_
  refine z_if_eq 11 22 31 rfl rfl (by decide) ?_ ?_
  · refine z_aload0 16 32 rfl rfl ?_
    refine z_aload0 17 33 rfl rfl ?_
    refine z_getR 18 36 19 rfl rfl zf_X11_32 rfl h0 ?_
    refine z_iload1 19 37 rfl rfl ?_
    refine z_aload0 20 38 rfl rfl ?_
    refine z_getR 21 41 19 rfl rfl zf_X11_32 rfl h0 ?_
    refine z_bipush 22 43 rfl rfl cb_48 ?_
    refine z_iald 23 44 rfl rfl ?_
    refine z_aload0 24 45 rfl rfl ?_
    refine z_getI 25 48 39 rfl rfl zf_X11_466 rfl h0 ?_
    refine z_cV4I 26 51 rfl rfl zl_X11_308 F_X11_doneOf (zR_rm (by omega)) (c_X11_doneOf X d (by omega) a0 (σ6.2 a0 19) x1 (σ6.1 (σ6.2 a0 19) (48 : Int32).toNatClampNeg) (σ6.1 a0 39) σ6) ⟨by decide, rfl, rfl⟩ h0 rfl (Nat.le_of_ble_eq_true rfl) (fun r8 σ9 => ?_)
    exact z_iret 27 rfl rfl
  · refine z_aload0 12 23 rfl rfl ?_
    refine z_iload4 13 25 rfl rfl ?_
    refine z_cV1I 14 28 rfl rfl zl_X11_181 F_X11_no (zR_rm (by omega)) (c_X11_no X d a0 v7 σ6) ⟨by decide, rfl, rfl⟩ h0 rfl (Nat.le_of_ble_eq_true rfl) (fun r10 σ11 => ?_)
    refine z_goto 15 51 rfl (by decide) ?_
    exact z_iret 27 rfl rfl
def f_X11_smudged (a0 : Nat) (x1 : Int32) (x2 : Int32) (σ : zS) : Option (Int32 × zS) := zck (WM.2 a0 = (11, 0)) (zbd (f_X11_good a0 σ) (fun r1 σ2 => zbd (f_X11_thumbWhy a0 (σ2.1 a0 14) x1 x2 σ2) (fun r3 σ4 => zlt r3 (fun v5 => zbr (v5 = 0) (zbd (f_X11_ones (σ4.1 a0 39) σ4) (fun r6 σ7 => some (r6, σ7))) (zbd (f_X11_no a0 v5 σ4) (fun r8 σ9 => some (r8, σ9)))))))
theorem c_X11_smudged (X : zX) (d : Nat) (hd : 2 ≤ d) (a0 : Nat) (x1 : Int32) (x2 : Int32) (σ : zS) : ∀ (r : Int32) (σ' : zS), f_X11_smudged a0 x1 x2 σ = some (r, σ') → zCN X WM d M_X11_smudged [.ref a0, .int x1, .int x2] σ (zeI r, σ') := by
  obtain ⟨d, rfl⟩ : ∃ e, d = e + 1 := ⟨d - 1, by omega⟩
  refine z_entry [.ref a0, .int x1, .int x2] (by decide +kernel) T_X11_smudged (Nat.le_of_ble_eq_true rfl) ?_
  show zK X WM (zrm (d + 1)) M_X11_smudged (zZ X WM zeI) 0 [some (.ref a0), some (.int x1), some (.int x2), none] [] σ (f_X11_smudged a0 x1 x2 σ)
  unfold f_X11_smudged
  refine z_ck (fun h0 => ?_)
  refine z_aload0 0 1 rfl rfl ?_
  refine z_cV0V 1 4 rfl rfl zl_X11_178 F_X11_good (zR_rm (by omega)) (c_X11_good X d a0 σ) ⟨by decide, rfl, rfl⟩ h0 rfl (Nat.le_of_ble_eq_true rfl) (fun r1 σ2 => ?_)
  refine z_aload0 2 5 rfl rfl ?_
  refine z_aload0 3 6 rfl rfl ?_
  refine z_getI 4 9 14 rfl rfl zf_X11_191 rfl h0 ?_
  refine z_iload1 5 10 rfl rfl ?_
  refine z_iload2 6 11 rfl rfl ?_
  refine z_cV3I 7 14 rfl rfl zl_X11_470 F_X11_thumbWhy (zR_rm (by omega)) (c_X11_thumbWhy X d (by omega) a0 (σ2.1 a0 14) x1 x2 σ2) ⟨by decide, rfl, rfl⟩ h0 rfl (Nat.le_of_ble_eq_true rfl) (fun r3 σ4 => ?_)
  refine z_istore3 8 15 rfl rfl rfl (fun v5 => ?_)
  refine z_iload3 9 16 rfl rfl ?_
  refine z_if_eq 10 19 27 rfl rfl (by decide) ?_ ?_
  · refine z_aload0 15 28 rfl rfl ?_
    refine z_getI 16 31 39 rfl rfl zf_X11_466 rfl h0 ?_
    refine z_cS1I 17 34 rfl rfl zl_X11_342 F_X11_ones (zR_rm (by omega)) (c_X11_ones X d (σ4.1 a0 39) σ4) rfl (Nat.le_of_ble_eq_true rfl) (fun r6 σ7 => ?_)
    exact z_iret 18 rfl rfl
  · refine z_aload0 11 20 rfl rfl ?_
    refine z_iload3 12 21 rfl rfl ?_
    refine z_cV1I 13 24 rfl rfl zl_X11_181 F_X11_no (zR_rm (by omega)) (c_X11_no X d a0 v5 σ4) ⟨by decide, rfl, rfl⟩ h0 rfl (Nat.le_of_ble_eq_true rfl) (fun r8 σ9 => ?_)
    refine z_goto 14 34 rfl (by decide) ?_
    exact z_iret 18 rfl rfl
def f_X11_note_49 (a0 : Nat)  (σ : zS) : Option (Unit × zS) := zbd (f_X11_copy (σ.2 a0 19) (0 : Int32) (σ.2 a0 20) ((50 : Int32) * (σ.1 a0 22)) (50 : Int32) σ) (fun r1 σ2 => zlt (zpi σ2 a0 22 ((σ2.1 a0 22) + (1 : Int32))) (fun σ3 => some ((), σ3)))
theorem t_X11_note_49 (X : zX) (d : Nat) (hd : 1 ≤ d + 1) (a0 : Nat) (h0 : WM.2 a0 = (11, 0))  (σ : zS) : zK X WM (zrm (d + 1)) M_X11_note (zZ X WM zeV) 49 [some (.ref a0), none] [] σ (f_X11_note_49 a0 σ) := by
  unfold f_X11_note_49
  refine z_aload0 27 50 rfl rfl ?_
  refine z_getR 28 53 19 rfl rfl zf_X11_32 rfl h0 ?_
  refine z_iconst 29 54 rfl rfl ci_0 ?_
  refine z_aload0 30 55 rfl rfl ?_
  refine z_getR 31 58 20 rfl rfl zf_X11_35 rfl h0 ?_
  refine z_bipush 32 60 rfl rfl cb_50 ?_
  refine z_aload0 33 61 rfl rfl ?_
  refine z_getI 34 64 22 rfl rfl zf_X11_194 rfl h0 ?_
  refine z_imul 35 65 rfl rfl ?_
  refine z_bipush 36 67 rfl rfl cb_50 ?_
  refine z_cS5V 37 70 rfl rfl zl_X11_187 F_X11_copy (zR_rm (by omega)) (c_X11_copy X d (σ.2 a0 19) (0 : Int32) (σ.2 a0 20) ((50 : Int32) * (σ.1 a0 22)) (50 : Int32) σ) rfl (Nat.le_of_ble_eq_true rfl) (fun r1 σ2 => ?_)
  refine z_aload0 38 71 rfl rfl ?_
  refine z_dup 39 72 rfl rfl rfl ?_
  refine z_getI 40 75 22 rfl rfl zf_X11_194 rfl h0 ?_
  refine z_iconst 41 76 rfl rfl ci_1 ?_
  refine z_iadd 42 77 rfl rfl ?_
  refine z_putI 43 80 22 rfl rfl zf_X11_194 rfl rfl rfl h0 (fun σ3 => ?_)
  exact z_vret 44 rfl rfl
def f_X11_note_11 (a0 : Nat) : Nat → Int32 → zS → Option (Unit × zS)
  | 0, _, _ => none
  | n + 1, x1, σ => zbr ((750 : Int32) ≤ x1) (zlt (zpi σ a0 22 ((σ.1 a0 22) - (1 : Int32))) (fun σ4 => f_X11_note_49 a0 σ4)) (zck (zok 100 (WM.2 (σ.2 a0 20)) (x1 + (50 : Int32))) (zck (zok 100 (WM.2 (σ.2 a0 20)) x1) (zlt (zpi σ (σ.2 a0 20) x1.toNatClampNeg (σ.1 (σ.2 a0 20) (x1 + (50 : Int32)).toNatClampNeg)) (fun σ5 => zlt (x1 + (1 : Int32)) (fun v6 => f_X11_note_11 a0 n v6 σ5)))))
theorem t_X11_note_11 (X : zX) (d : Nat) (hd : 1 ≤ d + 1) (a0 : Nat) (h0 : WM.2 a0 = (11, 0)) : ∀ (n : Nat) (x1 : Int32) (σ : zS), zK X WM (zrm (d + 1)) M_X11_note (zZ X WM zeV) 11 [some (.ref a0), some (.int x1)] [] σ (f_X11_note_11 a0 n x1 σ) := by
  intro n
  induction n with
  | zero => intro x1 σ; exact z_none
  | succ n ih =>
    intro x1 σ
    rw [f_X11_note_11]
    refine z_iload1 6 12 rfl rfl ?_
    refine z_sipush 7 15 rfl rfl cs_750 ?_
    refine z_icmp_ge 8 18 39 rfl rfl (by decide) ?_ ?_
    · refine z_aload0 21 40 rfl rfl ?_
      refine z_dup 22 41 rfl rfl rfl ?_
      refine z_getI 23 44 22 rfl rfl zf_X11_194 rfl h0 ?_
      refine z_iconst 24 45 rfl rfl ci_1 ?_
      refine z_isub 25 46 rfl rfl ?_
      refine z_putI 26 49 22 rfl rfl zf_X11_194 rfl rfl rfl h0 (fun σ4 => ?_)
      exact z_wk (zle_e (zle_n zle_0)) (t_X11_note_49 X d hd a0 h0  σ4)
    · refine z_aload0 9 19 rfl rfl ?_
      refine z_getR 10 22 20 rfl rfl zf_X11_35 rfl h0 ?_
      refine z_iload1 11 23 rfl rfl ?_
      refine z_aload0 12 24 rfl rfl ?_
      refine z_getR 13 27 20 rfl rfl zf_X11_35 rfl h0 ?_
      refine z_iload1 14 28 rfl rfl ?_
      refine z_bipush 15 30 rfl rfl cb_50 ?_
      refine z_iadd 16 31 rfl rfl ?_
      refine z_iald 17 32 rfl rfl ?_
      refine z_iast 18 33 rfl rfl (fun σ5 => ?_)
      refine z_iinc1 19 36 rfl rfl ci_1 rfl (fun v6 => ?_)
      refine z_goto 20 11 rfl (by decide) ?_
      exact ih v6 σ5
def f_X11_note (a0 : Nat) (σ : zS) : Option (Unit × zS) := zck (WM.2 a0 = (11, 0)) (zbr ((σ.1 a0 22) = (16 : Int32)) (zlt (0 : Int32) (fun v7 => f_X11_note_11 a0 FU v7 σ)) (f_X11_note_49 a0 σ))
theorem c_X11_note (X : zX) (d : Nat) (hd : 1 ≤ d) (a0 : Nat) (σ : zS) : ∀ (r : Unit) (σ' : zS), f_X11_note a0 σ = some (r, σ') → zCN X WM d M_X11_note [.ref a0] σ (zeV r, σ') := by
  obtain ⟨d, rfl⟩ : ∃ e, d = e + 1 := ⟨d - 1, by omega⟩
  refine z_entry [.ref a0] (by decide +kernel) T_X11_note (Nat.le_of_ble_eq_true rfl) ?_
  show zK X WM (zrm (d + 1)) M_X11_note (zZ X WM zeV) 0 [some (.ref a0), none] [] σ (f_X11_note a0 σ)
  unfold f_X11_note
  refine z_ck (fun h0 => ?_)
  refine z_aload0 0 1 rfl rfl ?_
  refine z_getI 1 4 22 rfl rfl zf_X11_194 rfl h0 ?_
  refine z_bipush 2 6 rfl rfl cb_16 ?_
  refine z_icmp_ne 3 9 49 rfl rfl (by decide) ?_ ?_
  · refine z_iconst 4 10 rfl rfl ci_0 ?_
    refine z_istore1 5 11 rfl rfl rfl (fun v7 => ?_)
    exact t_X11_note_11 X d hd a0 h0  FU v7 σ
  · exact t_X11_note_49 X d hd a0 h0  σ
def f_X11_write_136 (a0 : Nat) (x5 : Int32) (s0 : Nat) (s1 : Int32) (s2 : Int32) (s3 : Int32) (s4 : Int32) (σ : zS) : Option (Int32 × zS) := zbd (f_X11_lay s0 s1 s2 s3 s4 x5 σ) (fun r1 σ2 => zck (zok 100 (WM.2 (σ2.2 a0 19)) (48 : Int32)) (some (((σ2.1 (σ2.2 a0 19) (48 : Int32).toNatClampNeg) - (1 : Int32)), σ2)))
theorem t_X11_write_136 (X : zX) (d : Nat) (hd : 2 ≤ d + 1) (a0 : Nat) (h0 : WM.2 a0 = (11, 0)) (x5 : Int32) (s0 : Nat) (s1 : Int32) (s2 : Int32) (s3 : Int32) (s4 : Int32) (σ : zS) : zK X WM (zrm (d + 1)) M_X11_write (zZ X WM zeI) 136 [some (.ref a0), none, none, none, none, some (.int x5)] [.int s4, .int s3, .int s2, .int s1, .ref s0] σ (f_X11_write_136 a0 x5 s0 s1 s2 s3 s4 σ) := by
  unfold f_X11_write_136
  refine z_iload5 75 138 rfl rfl ?_
  refine z_cS6V 76 141 rfl rfl zl_X11_266 F_X11_lay (zR_rm (by omega)) (c_X11_lay X d s0 s1 s2 s3 s4 x5 σ) rfl (Nat.le_of_ble_eq_true rfl) (fun r1 σ2 => ?_)
  refine z_aload0 77 142 rfl rfl ?_
  refine z_getR 78 145 19 rfl rfl zf_X11_32 rfl h0 ?_
  refine z_bipush 79 147 rfl rfl cb_48 ?_
  refine z_iald 80 148 rfl rfl ?_
  refine z_iconst 81 149 rfl rfl ci_1 ?_
  refine z_isub 82 150 rfl rfl ?_
  exact z_iret 83 rfl rfl
def f_X11_write_109 (a0 : Nat)  (σ : zS) : Option (Int32 × zS) := zbd (f_X11_no a0 (3 : Int32) σ) (fun r3 σ4 => some (r3, σ4))
theorem t_X11_write_109 (X : zX) (d : Nat) (hd : 2 ≤ d + 1) (a0 : Nat) (h0 : WM.2 a0 = (11, 0))  (σ : zS) : zK X WM (zrm (d + 1)) M_X11_write (zZ X WM zeI) 109 [some (.ref a0), none, none, none, none, none] [] σ (f_X11_write_109 a0 σ) := by
  unfold f_X11_write_109
  refine z_aload0 59 110 rfl rfl ?_
  refine z_iconst 60 111 rfl rfl ci_3 ?_
  refine z_cV1I 61 114 rfl rfl zl_X11_181 F_X11_no (zR_rm (by omega)) (c_X11_no X d a0 (3 : Int32) σ) ⟨by decide, rfl, rfl⟩ h0 rfl (Nat.le_of_ble_eq_true rfl) (fun r3 σ4 => ?_)
  exact z_iret 62 rfl rfl
def f_X11_write_36 (a0 : Nat)  (σ : zS) : Option (Int32 × zS) := zbd (f_X11_no a0 (1 : Int32) σ) (fun r5 σ6 => some (r5, σ6))
theorem t_X11_write_36 (X : zX) (d : Nat) (hd : 2 ≤ d + 1) (a0 : Nat) (h0 : WM.2 a0 = (11, 0))  (σ : zS) : zK X WM (zrm (d + 1)) M_X11_write (zZ X WM zeI) 36 [some (.ref a0), none, none, none, none, none] [] σ (f_X11_write_36 a0 σ) := by
  unfold f_X11_write_36
  refine z_aload0 20 37 rfl rfl ?_
  refine z_iconst 21 38 rfl rfl ci_1 ?_
  refine z_cV1I 22 41 rfl rfl zl_X11_181 F_X11_no (zR_rm (by omega)) (c_X11_no X d a0 (1 : Int32) σ) ⟨by decide, rfl, rfl⟩ h0 rfl (Nat.le_of_ble_eq_true rfl) (fun r5 σ6 => ?_)
  exact z_iret 23 rfl rfl
def f_X11_write (a0 : Nat) (x1 : Int32) (x2 : Int32) (x3 : Int32) (x4 : Int32) (x5 : Int32) (σ : zS) : Option (Int32 × zS) := zck (WM.2 a0 = (11, 0)) (zbd (f_X11_good a0 σ) (fun r7 σ8 => zbd (f_X11_isPlace a0 x2 σ8) (fun r9 σ10 => zbr (r9 = 0) (f_X11_write_36 a0 σ10) (zbd (f_X11_isMatter a0 x3 σ10) (fun r11 σ12 => zbr (r11 = 0) (f_X11_write_36 a0 σ12) (zck (zok 100 (WM.2 (σ12.2 a0 15)) (3 : Int32)) (zbd (f_X11_in x1 (0 : Int32) ((σ12.1 (σ12.2 a0 15) (3 : Int32).toNatClampNeg) - (1 : Int32)) σ12) (fun r13 σ14 => zbr (r13 = 0) (f_X11_write_36 a0 σ14) (zbd (f_X11_in x5 (1 : Int32) (9 : Int32) σ14) (fun r15 σ16 => zbr (r15 = 0) (zbd (f_X11_no a0 (2 : Int32) σ16) (fun r17 σ18 => some (r17, σ18))) (zck (zok 100 (WM.2 (σ16.2 a0 19)) (49 : Int32)) (zbd (f_X11_hasBit (σ16.1 (σ16.2 a0 19) (49 : Int32).toNatClampNeg) x2 σ16) (fun r19 σ20 => zbr (r19 = 0) (zck (zok 100 (WM.2 (σ20.2 a0 19)) (48 : Int32)) (zbr ((σ20.1 (σ20.2 a0 19) (48 : Int32).toNatClampNeg) = (8 : Int32)) (f_X11_write_109 a0 σ20) (zbd (f_X11_roomOn a0 (σ20.2 a0 15) (σ20.2 a0 19) x2 σ20) (fun r21 σ22 => zbr (x5 ≤ r21) (zbd (f_X11_note a0 σ22) (fun r23 σ24 => zbr (x4 = 0) (f_X11_write_136 a0 x5 (σ24.2 a0 19) x1 x2 x3 (0 : Int32) σ24) (f_X11_write_136 a0 x5 (σ24.2 a0 19) x1 x2 x3 (1 : Int32) σ24))) (f_X11_write_109 a0 σ22))))) (zbd (f_X11_no a0 (5 : Int32) σ20) (fun r25 σ26 => some (r25, σ26))))))))))))))))
theorem c_X11_write (X : zX) (d : Nat) (hd : 2 ≤ d) (a0 : Nat) (x1 : Int32) (x2 : Int32) (x3 : Int32) (x4 : Int32) (x5 : Int32) (σ : zS) : ∀ (r : Int32) (σ' : zS), f_X11_write a0 x1 x2 x3 x4 x5 σ = some (r, σ') → zCN X WM d M_X11_write [.ref a0, .int x1, .int x2, .int x3, .int x4, .int x5] σ (zeI r, σ') := by
  obtain ⟨d, rfl⟩ : ∃ e, d = e + 1 := ⟨d - 1, by omega⟩
  refine z_entry [.ref a0, .int x1, .int x2, .int x3, .int x4, .int x5] (by decide +kernel) T_X11_write (Nat.le_of_ble_eq_true rfl) ?_
  show zK X WM (zrm (d + 1)) M_X11_write (zZ X WM zeI) 0 [some (.ref a0), some (.int x1), some (.int x2), some (.int x3), some (.int x4), some (.int x5)] [] σ (f_X11_write a0 x1 x2 x3 x4 x5 σ)
  unfold f_X11_write
  refine z_ck (fun h0 => ?_)
  refine z_aload0 0 1 rfl rfl ?_
  refine z_cV0V 1 4 rfl rfl zl_X11_178 F_X11_good (zR_rm (by omega)) (c_X11_good X d a0 σ) ⟨by decide, rfl, rfl⟩ h0 rfl (Nat.le_of_ble_eq_true rfl) (fun r7 σ8 => ?_)
  refine z_aload0 2 5 rfl rfl ?_
  refine z_iload2 3 6 rfl rfl ?_
  refine z_cV1I 4 9 rfl rfl zl_X11_312 F_X11_isPlace (zR_rm (by omega)) (c_X11_isPlace X d (by omega) a0 x2 σ8) ⟨by decide, rfl, rfl⟩ h0 rfl (Nat.le_of_ble_eq_true rfl) (fun r9 σ10 => ?_)
  refine z_if_eq 5 12 36 rfl rfl (by decide) ?_ ?_
  · exact z_wk (zle_e (zle_n (zle_n (zle_n (zle_n (zle_n zle_0)))))) (t_X11_write_36 X d hd a0 h0  σ10)
  · refine z_aload0 6 13 rfl rfl ?_
    refine z_iload3 7 14 rfl rfl ?_
    refine z_cV1I 8 17 rfl rfl zl_X11_336 F_X11_isMatter (zR_rm (by omega)) (c_X11_isMatter X d (by omega) a0 x3 σ10) ⟨by decide, rfl, rfl⟩ h0 rfl (Nat.le_of_ble_eq_true rfl) (fun r11 σ12 => ?_)
    refine z_if_eq 9 20 36 rfl rfl (by decide) ?_ ?_
    · exact z_wk (zle_e (zle_n (zle_n (zle_n (zle_n (zle_n zle_0)))))) (t_X11_write_36 X d hd a0 h0  σ12)
    · refine z_iload1 10 21 rfl rfl ?_
      refine z_iconst 11 22 rfl rfl ci_0 ?_
      refine z_aload0 12 23 rfl rfl ?_
      refine z_getR 13 26 15 rfl rfl zf_X11_20 rfl h0 ?_
      refine z_iconst 14 27 rfl rfl ci_3 ?_
      refine z_iald 15 28 rfl rfl ?_
      refine z_iconst 16 29 rfl rfl ci_1 ?_
      refine z_isub 17 30 rfl rfl ?_
      refine z_cS3I 18 33 rfl rfl zl_X11_157 F_X11_in (zR_rm (by omega)) (c_X11_in X d x1 (0 : Int32) ((σ12.1 (σ12.2 a0 15) (3 : Int32).toNatClampNeg) - (1 : Int32)) σ12) rfl (Nat.le_of_ble_eq_true rfl) (fun r13 σ14 => ?_)
      refine z_if_ne 19 36 42 rfl rfl (by decide) ?_ ?_
      · exact z_wk (zle_e (zle_n (zle_n (zle_n (zle_n (zle_n zle_0)))))) (t_X11_write_36 X d hd a0 h0  σ14)
      · refine z_iload5 24 44 rfl rfl ?_
        refine z_iconst 25 45 rfl rfl ci_1 ?_
        refine z_bipush 26 47 rfl rfl cb_9 ?_
        refine z_cS3I 27 50 rfl rfl zl_X11_157 F_X11_in (zR_rm (by omega)) (c_X11_in X d x5 (1 : Int32) (9 : Int32) σ14) rfl (Nat.le_of_ble_eq_true rfl) (fun r15 σ16 => ?_)
        refine z_if_ne 28 53 59 rfl rfl (by decide) ?_ ?_
        · refine z_aload0 29 54 rfl rfl ?_
          refine z_iconst 30 55 rfl rfl ci_2 ?_
          refine z_cV1I 31 58 rfl rfl zl_X11_181 F_X11_no (zR_rm (by omega)) (c_X11_no X d a0 (2 : Int32) σ16) ⟨by decide, rfl, rfl⟩ h0 rfl (Nat.le_of_ble_eq_true rfl) (fun r17 σ18 => ?_)
          exact z_iret 32 rfl rfl
        · refine z_aload0 33 60 rfl rfl ?_
          refine z_getR 34 63 19 rfl rfl zf_X11_32 rfl h0 ?_
          refine z_bipush 35 65 rfl rfl cb_49 ?_
          refine z_iald 36 66 rfl rfl ?_
          refine z_iload2 37 67 rfl rfl ?_
          refine z_cS2I 38 70 rfl rfl zl_X11_277 F_X11_hasBit (zR_rm (by omega)) (c_X11_hasBit X d (σ16.1 (σ16.2 a0 19) (49 : Int32).toNatClampNeg) x2 σ16) rfl (Nat.le_of_ble_eq_true rfl) (fun r19 σ20 => ?_)
          refine z_if_eq 39 73 79 rfl rfl (by decide) ?_ ?_
          · refine z_aload0 44 80 rfl rfl ?_
            refine z_getR 45 83 19 rfl rfl zf_X11_32 rfl h0 ?_
            refine z_bipush 46 85 rfl rfl cb_48 ?_
            refine z_iald 47 86 rfl rfl ?_
            refine z_bipush 48 88 rfl rfl cb_8 ?_
            refine z_icmp_eq 49 91 109 rfl rfl (by decide) ?_ ?_
            · exact z_wk (zle_e (zle_n (zle_n (zle_n (zle_n (zle_n zle_0)))))) (t_X11_write_109 X d hd a0 h0  σ20)
            · refine z_iload5 50 93 rfl rfl ?_
              refine z_aload0 51 94 rfl rfl ?_
              refine z_aload0 52 95 rfl rfl ?_
              refine z_getR 53 98 15 rfl rfl zf_X11_20 rfl h0 ?_
              refine z_aload0 54 99 rfl rfl ?_
              refine z_getR 55 102 19 rfl rfl zf_X11_32 rfl h0 ?_
              refine z_iload2 56 103 rfl rfl ?_
              refine z_cV3I 57 106 rfl rfl zl_X11_262 F_X11_roomOn (zR_rm (by omega)) (c_X11_roomOn X d a0 (σ20.2 a0 15) (σ20.2 a0 19) x2 σ20) ⟨by decide, rfl, rfl⟩ h0 rfl (Nat.le_of_ble_eq_true rfl) (fun r21 σ22 => ?_)
              refine z_icmp_le 58 109 115 rfl rfl (by decide) ?_ ?_
              · refine z_aload0 63 116 rfl rfl ?_
                refine z_cV0V 64 119 rfl rfl zl_X11_474 F_X11_note (zR_rm (by omega)) (c_X11_note X d (by omega) a0 σ22) ⟨by decide, rfl, rfl⟩ h0 rfl (Nat.le_of_ble_eq_true rfl) (fun r23 σ24 => ?_)
                refine z_aload0 65 120 rfl rfl ?_
                refine z_getR 66 123 19 rfl rfl zf_X11_32 rfl h0 ?_
                refine z_iload1 67 124 rfl rfl ?_
                refine z_iload2 68 125 rfl rfl ?_
                refine z_iload3 69 126 rfl rfl ?_
                refine z_iload4 70 128 rfl rfl ?_
                refine z_if_eq 71 131 135 rfl rfl (by decide) ?_ ?_
                · refine z_iconst 74 136 rfl rfl ci_0 ?_
                  exact z_wk (zle_e (zle_n (zle_n (zle_n (zle_n (zle_e zle_0)))))) (t_X11_write_136 X d hd a0 h0  x5 (σ24.2 a0 19) x1 x2 x3 (0 : Int32) σ24)
                · refine z_iconst 72 132 rfl rfl ci_1 ?_
                  refine z_goto 73 136 rfl (by decide) ?_
                  exact z_wk (zle_e (zle_n (zle_n (zle_n (zle_n (zle_e zle_0)))))) (t_X11_write_136 X d hd a0 h0  x5 (σ24.2 a0 19) x1 x2 x3 (1 : Int32) σ24)
              · exact z_wk (zle_e (zle_n (zle_n (zle_n (zle_n (zle_n zle_0)))))) (t_X11_write_109 X d hd a0 h0  σ22)
          · refine z_aload0 40 74 rfl rfl ?_
            refine z_iconst 41 75 rfl rfl ci_5 ?_
            refine z_cV1I 42 78 rfl rfl zl_X11_181 F_X11_no (zR_rm (by omega)) (c_X11_no X d a0 (5 : Int32) σ20) ⟨by decide, rfl, rfl⟩ h0 rfl (Nat.le_of_ble_eq_true rfl) (fun r25 σ26 => ?_)
            exact z_iret 43 rfl rfl
def f_X11_strike (a0 : Nat) (x1 : Int32) (σ : zS) : Option (Int32 × zS) := zck (WM.2 a0 = (11, 0)) (zbd (f_X11_good a0 σ) (fun r1 σ2 => zbd (f_X11_isLine a0 x1 σ2) (fun r3 σ4 => zbr (r3 = 0) (zbd (f_X11_isNot a0 (1 : Int32) σ4) (fun r5 σ6 => zck (zb r5) (some (r5, σ6)))) (zck (zok 100 (WM.2 (σ4.2 a0 19)) (((6 : Int32) * x1) + (5 : Int32))) (zbr ((σ4.1 (σ4.2 a0 19) (((6 : Int32) * x1) + (5 : Int32)).toNatClampNeg) ≤ 0) (zbd (f_X11_note a0 σ4) (fun r7 σ8 => zck (zok 100 (WM.2 (σ8.2 a0 19)) (((6 : Int32) * x1) + (5 : Int32))) (zlt (zpi σ8 (σ8.2 a0 19) (((6 : Int32) * x1) + (5 : Int32)).toNatClampNeg (1 : Int32)) (fun σ9 => zck (zb (1 : Int32)) (some ((1 : Int32), σ9)))))) (zbd (f_X11_isNot a0 (5 : Int32) σ4) (fun r10 σ11 => zck (zb r10) (some (r10, σ11)))))))))
theorem c_X11_strike (X : zX) (d : Nat) (hd : 2 ≤ d) (a0 : Nat) (x1 : Int32) (σ : zS) : ∀ (r : Int32) (σ' : zS), f_X11_strike a0 x1 σ = some (r, σ') → zCN X WM d M_X11_strike [.ref a0, .int x1] σ (zeI r, σ') := by
  obtain ⟨d, rfl⟩ : ∃ e, d = e + 1 := ⟨d - 1, by omega⟩
  refine z_entry [.ref a0, .int x1] (by decide +kernel) T_X11_strike (Nat.le_of_ble_eq_true rfl) ?_
  show zK X WM (zrm (d + 1)) M_X11_strike (zZ X WM zeI) 0 [some (.ref a0), some (.int x1)] [] σ (f_X11_strike a0 x1 σ)
  unfold f_X11_strike
  refine z_ck (fun h0 => ?_)
  refine z_aload0 0 1 rfl rfl ?_
  refine z_cV0V 1 4 rfl rfl zl_X11_178 F_X11_good (zR_rm (by omega)) (c_X11_good X d a0 σ) ⟨by decide, rfl, rfl⟩ h0 rfl (Nat.le_of_ble_eq_true rfl) (fun r1 σ2 => ?_)
  refine z_aload0 2 5 rfl rfl ?_
  refine z_iload1 3 6 rfl rfl ?_
  refine z_cV1I 4 9 rfl rfl zl_X11_330 F_X11_isLine (zR_rm (by omega)) (c_X11_isLine X d (by omega) a0 x1 σ2) ⟨by decide, rfl, rfl⟩ h0 rfl (Nat.le_of_ble_eq_true rfl) (fun r3 σ4 => ?_)
  refine z_if_ne 5 12 18 rfl rfl (by decide) ?_ ?_
  · refine z_aload0 6 13 rfl rfl ?_
    refine z_iconst 7 14 rfl rfl ci_1 ?_
    refine z_cV1I 8 17 rfl rfl zl_X11_477 F_X11_isNot (zR_rm (by omega)) (c_X11_isNot X d a0 (1 : Int32) σ4) ⟨by decide, rfl, rfl⟩ h0 rfl (Nat.le_of_ble_eq_true rfl) (fun r5 σ6 => ?_)
    exact z_zret 9 rfl rfl
  · refine z_aload0 10 19 rfl rfl ?_
    refine z_getR 11 22 19 rfl rfl zf_X11_32 rfl h0 ?_
    refine z_bipush 12 24 rfl rfl cb_6 ?_
    refine z_iload1 13 25 rfl rfl ?_
    refine z_imul 14 26 rfl rfl ?_
    refine z_iconst 15 27 rfl rfl ci_5 ?_
    refine z_iadd 16 28 rfl rfl ?_
    refine z_iald 17 29 rfl rfl ?_
    refine z_if_le 18 32 38 rfl rfl (by decide) ?_ ?_
    · refine z_aload0 23 39 rfl rfl ?_
      refine z_cV0V 24 42 rfl rfl zl_X11_474 F_X11_note (zR_rm (by omega)) (c_X11_note X d (by omega) a0 σ4) ⟨by decide, rfl, rfl⟩ h0 rfl (Nat.le_of_ble_eq_true rfl) (fun r7 σ8 => ?_)
      refine z_aload0 25 43 rfl rfl ?_
      refine z_getR 26 46 19 rfl rfl zf_X11_32 rfl h0 ?_
      refine z_bipush 27 48 rfl rfl cb_6 ?_
      refine z_iload1 28 49 rfl rfl ?_
      refine z_imul 29 50 rfl rfl ?_
      refine z_iconst 30 51 rfl rfl ci_5 ?_
      refine z_iadd 31 52 rfl rfl ?_
      refine z_iconst 32 53 rfl rfl ci_1 ?_
      refine z_iast 33 54 rfl rfl (fun σ9 => ?_)
      refine z_iconst 34 55 rfl rfl ci_1 ?_
      exact z_zret 35 rfl rfl
    · refine z_aload0 19 33 rfl rfl ?_
      refine z_iconst 20 34 rfl rfl ci_5 ?_
      refine z_cV1I 21 37 rfl rfl zl_X11_477 F_X11_isNot (zR_rm (by omega)) (c_X11_isNot X d a0 (5 : Int32) σ4) ⟨by decide, rfl, rfl⟩ h0 rfl (Nat.le_of_ble_eq_true rfl) (fun r10 σ11 => ?_)
      exact z_zret 22 rfl rfl
def f_X11_fold (a0 : Nat) (x1 : Int32) (σ : zS) : Option (Int32 × zS) := zck (WM.2 a0 = (11, 0)) (zbd (f_X11_good a0 σ) (fun r1 σ2 => zbd (f_X11_isPlace a0 x1 σ2) (fun r3 σ4 => zbr (r3 = 0) (zbd (f_X11_no a0 (1 : Int32) σ4) (fun r5 σ6 => some (r5, σ6))) (zbd (f_X11_note a0 σ4) (fun r7 σ8 => zck (zok 100 (WM.2 (σ8.2 a0 19)) (49 : Int32)) (zck (zok 100 (WM.2 (σ8.2 a0 19)) (49 : Int32)) (zlt (zpi σ8 (σ8.2 a0 19) (49 : Int32).toNatClampNeg ((σ8.1 (σ8.2 a0 19) (49 : Int32).toNatClampNeg) ^^^ ((1 : Int32) <<< (x1 &&& 31)))) (fun σ9 => zck (zok 100 (WM.2 (σ9.2 a0 19)) (49 : Int32)) (some ((((σ9.1 (σ9.2 a0 19) (49 : Int32).toNatClampNeg) >>> (x1 &&& 31)) &&& (1 : Int32)), σ9))))))))))
theorem c_X11_fold (X : zX) (d : Nat) (hd : 2 ≤ d) (a0 : Nat) (x1 : Int32) (σ : zS) : ∀ (r : Int32) (σ' : zS), f_X11_fold a0 x1 σ = some (r, σ') → zCN X WM d M_X11_fold [.ref a0, .int x1] σ (zeI r, σ') := by
  obtain ⟨d, rfl⟩ : ∃ e, d = e + 1 := ⟨d - 1, by omega⟩
  refine z_entry [.ref a0, .int x1] (by decide +kernel) T_X11_fold (Nat.le_of_ble_eq_true rfl) ?_
  show zK X WM (zrm (d + 1)) M_X11_fold (zZ X WM zeI) 0 [some (.ref a0), some (.int x1)] [] σ (f_X11_fold a0 x1 σ)
  unfold f_X11_fold
  refine z_ck (fun h0 => ?_)
  refine z_aload0 0 1 rfl rfl ?_
  refine z_cV0V 1 4 rfl rfl zl_X11_178 F_X11_good (zR_rm (by omega)) (c_X11_good X d a0 σ) ⟨by decide, rfl, rfl⟩ h0 rfl (Nat.le_of_ble_eq_true rfl) (fun r1 σ2 => ?_)
  refine z_aload0 2 5 rfl rfl ?_
  refine z_iload1 3 6 rfl rfl ?_
  refine z_cV1I 4 9 rfl rfl zl_X11_312 F_X11_isPlace (zR_rm (by omega)) (c_X11_isPlace X d (by omega) a0 x1 σ2) ⟨by decide, rfl, rfl⟩ h0 rfl (Nat.le_of_ble_eq_true rfl) (fun r3 σ4 => ?_)
  refine z_if_ne 5 12 18 rfl rfl (by decide) ?_ ?_
  · refine z_aload0 6 13 rfl rfl ?_
    refine z_iconst 7 14 rfl rfl ci_1 ?_
    refine z_cV1I 8 17 rfl rfl zl_X11_181 F_X11_no (zR_rm (by omega)) (c_X11_no X d a0 (1 : Int32) σ4) ⟨by decide, rfl, rfl⟩ h0 rfl (Nat.le_of_ble_eq_true rfl) (fun r5 σ6 => ?_)
    exact z_iret 9 rfl rfl
  · refine z_aload0 10 19 rfl rfl ?_
    refine z_cV0V 11 22 rfl rfl zl_X11_474 F_X11_note (zR_rm (by omega)) (c_X11_note X d (by omega) a0 σ4) ⟨by decide, rfl, rfl⟩ h0 rfl (Nat.le_of_ble_eq_true rfl) (fun r7 σ8 => ?_)
    refine z_aload0 12 23 rfl rfl ?_
    refine z_getR 13 26 19 rfl rfl zf_X11_32 rfl h0 ?_
    refine z_bipush 14 28 rfl rfl cb_49 ?_
    refine z_dup2 15 29 rfl rfl rfl rfl ?_
    refine z_iald 16 30 rfl rfl ?_
    refine z_iconst 17 31 rfl rfl ci_1 ?_
    refine z_iload1 18 32 rfl rfl ?_
    refine z_ishl 19 33 rfl rfl ?_
    refine z_ixor 20 34 rfl rfl ?_
    refine z_iast 21 35 rfl rfl (fun σ9 => ?_)
    refine z_aload0 22 36 rfl rfl ?_
    refine z_getR 23 39 19 rfl rfl zf_X11_32 rfl h0 ?_
    refine z_bipush 24 41 rfl rfl cb_49 ?_
    refine z_iald 25 42 rfl rfl ?_
    refine z_iload1 26 43 rfl rfl ?_
    refine z_ishr 27 44 rfl rfl ?_
    refine z_iconst 28 45 rfl rfl ci_1 ?_
    refine z_iand 29 46 rfl rfl ?_
    exact z_iret 30 rfl rfl
def f_X11_undo (a0 : Nat) (σ : zS) : Option (Int32 × zS) := zck (WM.2 a0 = (11, 0)) (zbd (f_X11_good a0 σ) (fun r1 σ2 => zbr ((σ2.1 a0 22) = 0) (zbd (f_X11_isNot a0 (6 : Int32) σ2) (fun r3 σ4 => zck (zb r3) (some (r3, σ4)))) (zlt (zpi σ2 a0 22 ((σ2.1 a0 22) - (1 : Int32))) (fun σ5 => zbd (f_X11_copy (σ5.2 a0 20) ((50 : Int32) * (σ5.1 a0 22)) (σ5.2 a0 19) (0 : Int32) (50 : Int32) σ5) (fun r6 σ7 => zck (zb (1 : Int32)) (some ((1 : Int32), σ7)))))))
theorem c_X11_undo (X : zX) (d : Nat) (hd : 1 ≤ d) (a0 : Nat) (σ : zS) : ∀ (r : Int32) (σ' : zS), f_X11_undo a0 σ = some (r, σ') → zCN X WM d M_X11_undo [.ref a0] σ (zeI r, σ') := by
  obtain ⟨d, rfl⟩ : ∃ e, d = e + 1 := ⟨d - 1, by omega⟩
  refine z_entry [.ref a0] (by decide +kernel) T_X11_undo (Nat.le_of_ble_eq_true rfl) ?_
  show zK X WM (zrm (d + 1)) M_X11_undo (zZ X WM zeI) 0 [some (.ref a0)] [] σ (f_X11_undo a0 σ)
  unfold f_X11_undo
  refine z_ck (fun h0 => ?_)
  refine z_aload0 0 1 rfl rfl ?_
  refine z_cV0V 1 4 rfl rfl zl_X11_178 F_X11_good (zR_rm (by omega)) (c_X11_good X d a0 σ) ⟨by decide, rfl, rfl⟩ h0 rfl (Nat.le_of_ble_eq_true rfl) (fun r1 σ2 => ?_)
  refine z_aload0 2 5 rfl rfl ?_
  refine z_getI 3 8 22 rfl rfl zf_X11_194 rfl h0 ?_
  refine z_if_ne 4 11 18 rfl rfl (by decide) ?_ ?_
  · refine z_aload0 5 12 rfl rfl ?_
    refine z_bipush 6 14 rfl rfl cb_6 ?_
    refine z_cV1I 7 17 rfl rfl zl_X11_477 F_X11_isNot (zR_rm (by omega)) (c_X11_isNot X d a0 (6 : Int32) σ2) ⟨by decide, rfl, rfl⟩ h0 rfl (Nat.le_of_ble_eq_true rfl) (fun r3 σ4 => ?_)
    exact z_zret 8 rfl rfl
  · refine z_aload0 9 19 rfl rfl ?_
    refine z_dup 10 20 rfl rfl rfl ?_
    refine z_getI 11 23 22 rfl rfl zf_X11_194 rfl h0 ?_
    refine z_iconst 12 24 rfl rfl ci_1 ?_
    refine z_isub 13 25 rfl rfl ?_
    refine z_putI 14 28 22 rfl rfl zf_X11_194 rfl rfl rfl h0 (fun σ5 => ?_)
    refine z_aload0 15 29 rfl rfl ?_
    refine z_getR 16 32 20 rfl rfl zf_X11_35 rfl h0 ?_
    refine z_bipush 17 34 rfl rfl cb_50 ?_
    refine z_aload0 18 35 rfl rfl ?_
    refine z_getI 19 38 22 rfl rfl zf_X11_194 rfl h0 ?_
    refine z_imul 20 39 rfl rfl ?_
    refine z_aload0 21 40 rfl rfl ?_
    refine z_getR 22 43 19 rfl rfl zf_X11_32 rfl h0 ?_
    refine z_iconst 23 44 rfl rfl ci_0 ?_
    refine z_bipush 24 46 rfl rfl cb_50 ?_
    refine z_cS5V 25 49 rfl rfl zl_X11_187 F_X11_copy (zR_rm (by omega)) (c_X11_copy X d (σ5.2 a0 20) ((50 : Int32) * (σ5.1 a0 22)) (σ5.2 a0 19) (0 : Int32) (50 : Int32) σ5) rfl (Nat.le_of_ble_eq_true rfl) (fun r6 σ7 => ?_)
    refine z_iconst 26 50 rfl rfl ci_1 ?_
    exact z_zret 27 rfl rfl
def f_X11_image (a0 : Nat) (σ : zS) : Option (Int32 × zS) := zck (WM.2 a0 = (11, 0)) (zbd (f_X11_good a0 σ) (fun r1 σ2 => zbr ((σ2.1 a0 14) = 0) (zbd (f_X11_no a0 (1 : Int32) σ2) (fun r3 σ4 => some (r3, σ4))) (zbr ((σ2.1 a0 23) = (3 : Int32)) (zbd (f_X11_no a0 (3 : Int32) σ2) (fun r5 σ6 => some (r5, σ6))) (zbd (f_X11_copy (σ2.2 a0 19) (0 : Int32) (σ2.2 a0 21) ((50 : Int32) * (σ2.1 a0 23)) (50 : Int32) σ2) (fun r7 σ8 => zlt (zpi σ8 a0 23 ((σ8.1 a0 23) + (1 : Int32))) (fun σ9 => some (((σ9.1 a0 23) - (1 : Int32)), σ9)))))))
theorem c_X11_image (X : zX) (d : Nat) (hd : 1 ≤ d) (a0 : Nat) (σ : zS) : ∀ (r : Int32) (σ' : zS), f_X11_image a0 σ = some (r, σ') → zCN X WM d M_X11_image [.ref a0] σ (zeI r, σ') := by
  obtain ⟨d, rfl⟩ : ∃ e, d = e + 1 := ⟨d - 1, by omega⟩
  refine z_entry [.ref a0] (by decide +kernel) T_X11_image (Nat.le_of_ble_eq_true rfl) ?_
  show zK X WM (zrm (d + 1)) M_X11_image (zZ X WM zeI) 0 [some (.ref a0)] [] σ (f_X11_image a0 σ)
  unfold f_X11_image
  refine z_ck (fun h0 => ?_)
  refine z_aload0 0 1 rfl rfl ?_
  refine z_cV0V 1 4 rfl rfl zl_X11_178 F_X11_good (zR_rm (by omega)) (c_X11_good X d a0 σ) ⟨by decide, rfl, rfl⟩ h0 rfl (Nat.le_of_ble_eq_true rfl) (fun r1 σ2 => ?_)
  refine z_aload0 2 5 rfl rfl ?_
  refine z_getI 3 8 14 rfl rfl zf_X11_191 rfl h0 ?_
  refine z_if_ne 4 11 17 rfl rfl (by decide) ?_ ?_
  · refine z_aload0 5 12 rfl rfl ?_
    refine z_iconst 6 13 rfl rfl ci_1 ?_
    refine z_cV1I 7 16 rfl rfl zl_X11_181 F_X11_no (zR_rm (by omega)) (c_X11_no X d a0 (1 : Int32) σ2) ⟨by decide, rfl, rfl⟩ h0 rfl (Nat.le_of_ble_eq_true rfl) (fun r3 σ4 => ?_)
    exact z_iret 8 rfl rfl
  · refine z_aload0 9 18 rfl rfl ?_
    refine z_getI 10 21 23 rfl rfl zf_X11_197 rfl h0 ?_
    refine z_iconst 11 22 rfl rfl ci_3 ?_
    refine z_icmp_ne 12 25 31 rfl rfl (by decide) ?_ ?_
    · refine z_aload0 13 26 rfl rfl ?_
      refine z_iconst 14 27 rfl rfl ci_3 ?_
      refine z_cV1I 15 30 rfl rfl zl_X11_181 F_X11_no (zR_rm (by omega)) (c_X11_no X d a0 (3 : Int32) σ2) ⟨by decide, rfl, rfl⟩ h0 rfl (Nat.le_of_ble_eq_true rfl) (fun r5 σ6 => ?_)
      exact z_iret 16 rfl rfl
    · refine z_aload0 17 32 rfl rfl ?_
      refine z_getR 18 35 19 rfl rfl zf_X11_32 rfl h0 ?_
      refine z_iconst 19 36 rfl rfl ci_0 ?_
      refine z_aload0 20 37 rfl rfl ?_
      refine z_getR 21 40 21 rfl rfl zf_X11_38 rfl h0 ?_
      refine z_bipush 22 42 rfl rfl cb_50 ?_
      refine z_aload0 23 43 rfl rfl ?_
      refine z_getI 24 46 23 rfl rfl zf_X11_197 rfl h0 ?_
      refine z_imul 25 47 rfl rfl ?_
      refine z_bipush 26 49 rfl rfl cb_50 ?_
      refine z_cS5V 27 52 rfl rfl zl_X11_187 F_X11_copy (zR_rm (by omega)) (c_X11_copy X d (σ2.2 a0 19) (0 : Int32) (σ2.2 a0 21) ((50 : Int32) * (σ2.1 a0 23)) (50 : Int32) σ2) rfl (Nat.le_of_ble_eq_true rfl) (fun r7 σ8 => ?_)
      refine z_aload0 28 53 rfl rfl ?_
      refine z_dup 29 54 rfl rfl rfl ?_
      refine z_getI 30 57 23 rfl rfl zf_X11_197 rfl h0 ?_
      refine z_iconst 31 58 rfl rfl ci_1 ?_
      refine z_iadd 32 59 rfl rfl ?_
      refine z_putI 33 62 23 rfl rfl zf_X11_197 rfl rfl rfl h0 (fun σ9 => ?_)
      refine z_aload0 34 63 rfl rfl ?_
      refine z_getI 35 66 23 rfl rfl zf_X11_197 rfl h0 ?_
      refine z_iconst 36 67 rfl rfl ci_1 ?_
      refine z_isub 37 68 rfl rfl ?_
      exact z_iret 38 rfl rfl
def f_X11_back (a0 : Nat) (x1 : Int32) (σ : zS) : Option (Int32 × zS) := zck (WM.2 a0 = (11, 0)) (zbd (f_X11_good a0 σ) (fun r1 σ2 => zbd (f_X11_in x1 (0 : Int32) ((σ2.1 a0 23) - (1 : Int32)) σ2) (fun r3 σ4 => zbr (r3 = 0) (zbd (f_X11_isNot a0 (1 : Int32) σ4) (fun r5 σ6 => zck (zb r5) (some (r5, σ6)))) (zbd (f_X11_copy (σ4.2 a0 21) ((50 : Int32) * x1) (σ4.2 a0 19) (0 : Int32) (50 : Int32) σ4) (fun r7 σ8 => zlt (zpi σ8 a0 22 (0 : Int32)) (fun σ9 => zck (zb (1 : Int32)) (some ((1 : Int32), σ9))))))))
theorem c_X11_back (X : zX) (d : Nat) (hd : 1 ≤ d) (a0 : Nat) (x1 : Int32) (σ : zS) : ∀ (r : Int32) (σ' : zS), f_X11_back a0 x1 σ = some (r, σ') → zCN X WM d M_X11_back [.ref a0, .int x1] σ (zeI r, σ') := by
  obtain ⟨d, rfl⟩ : ∃ e, d = e + 1 := ⟨d - 1, by omega⟩
  refine z_entry [.ref a0, .int x1] (by decide +kernel) T_X11_back (Nat.le_of_ble_eq_true rfl) ?_
  show zK X WM (zrm (d + 1)) M_X11_back (zZ X WM zeI) 0 [some (.ref a0), some (.int x1)] [] σ (f_X11_back a0 x1 σ)
  unfold f_X11_back
  refine z_ck (fun h0 => ?_)
  refine z_aload0 0 1 rfl rfl ?_
  refine z_cV0V 1 4 rfl rfl zl_X11_178 F_X11_good (zR_rm (by omega)) (c_X11_good X d a0 σ) ⟨by decide, rfl, rfl⟩ h0 rfl (Nat.le_of_ble_eq_true rfl) (fun r1 σ2 => ?_)
  refine z_iload1 2 5 rfl rfl ?_
  refine z_iconst 3 6 rfl rfl ci_0 ?_
  refine z_aload0 4 7 rfl rfl ?_
  refine z_getI 5 10 23 rfl rfl zf_X11_197 rfl h0 ?_
  refine z_iconst 6 11 rfl rfl ci_1 ?_
  refine z_isub 7 12 rfl rfl ?_
  refine z_cS3I 8 15 rfl rfl zl_X11_157 F_X11_in (zR_rm (by omega)) (c_X11_in X d x1 (0 : Int32) ((σ2.1 a0 23) - (1 : Int32)) σ2) rfl (Nat.le_of_ble_eq_true rfl) (fun r3 σ4 => ?_)
  refine z_if_ne 9 18 24 rfl rfl (by decide) ?_ ?_
  · refine z_aload0 10 19 rfl rfl ?_
    refine z_iconst 11 20 rfl rfl ci_1 ?_
    refine z_cV1I 12 23 rfl rfl zl_X11_477 F_X11_isNot (zR_rm (by omega)) (c_X11_isNot X d a0 (1 : Int32) σ4) ⟨by decide, rfl, rfl⟩ h0 rfl (Nat.le_of_ble_eq_true rfl) (fun r5 σ6 => ?_)
    exact z_zret 13 rfl rfl
  · refine z_aload0 14 25 rfl rfl ?_
    refine z_getR 15 28 21 rfl rfl zf_X11_38 rfl h0 ?_
    refine z_bipush 16 30 rfl rfl cb_50 ?_
    refine z_iload1 17 31 rfl rfl ?_
    refine z_imul 18 32 rfl rfl ?_
    refine z_aload0 19 33 rfl rfl ?_
    refine z_getR 20 36 19 rfl rfl zf_X11_32 rfl h0 ?_
    refine z_iconst 21 37 rfl rfl ci_0 ?_
    refine z_bipush 22 39 rfl rfl cb_50 ?_
    refine z_cS5V 23 42 rfl rfl zl_X11_187 F_X11_copy (zR_rm (by omega)) (c_X11_copy X d (σ4.2 a0 21) ((50 : Int32) * x1) (σ4.2 a0 19) (0 : Int32) (50 : Int32) σ4) rfl (Nat.le_of_ble_eq_true rfl) (fun r7 σ8 => ?_)
    refine z_aload0 24 43 rfl rfl ?_
    refine z_iconst 25 44 rfl rfl ci_0 ?_
    refine z_putI 26 47 22 rfl rfl zf_X11_194 rfl rfl rfl h0 (fun σ9 => ?_)
    refine z_iconst 27 48 rfl rfl ci_1 ?_
    exact z_zret 28 rfl rfl
def f_X11_led_49 (a0 : Nat) (H4 : Int32 → Int32 → Int32 → zS → Option (Int32 × zS)) (x1 : Int32) (x2 : Int32) (x3 : Int32) (σ : zS) : Option (Int32 × zS) := zlt (x3 + (1 : Int32)) (fun v1 => H4 x1 x2 v1 σ)
theorem t_X11_led_49 (X : zX) (d : Nat) (hd : 7 ≤ d + 1) (a0 : Nat) (h0 : WM.2 a0 = (11, 0)) (H4 : Int32 → Int32 → Int32 → zS → Option (Int32 × zS)) (hH4 : ∀ (x1 : Int32) (x2 : Int32) (x3 : Int32) (σ : zS), zK X WM (zrm (d + 1)) M_X11_led (zZ X WM zeI) 4 [some (.ref a0), some (.int x1), some (.int x2), some (.int x3)] [] σ (H4 x1 x2 x3 σ)) (x1 : Int32) (x2 : Int32) (x3 : Int32) (σ : zS) : zK X WM (zrm (d + 1)) M_X11_led (zZ X WM zeI) 49 [some (.ref a0), some (.int x1), some (.int x2), some (.int x3)] [] σ (f_X11_led_49 a0 H4 x1 x2 x3 σ) := by
  unfold f_X11_led_49
  refine z_iinc3 28 52 rfl rfl ci_1 rfl (fun v1 => ?_)
  refine z_goto 29 4 rfl (by decide) ?_
  exact hH4 x1 x2 v1 σ
def f_X11_led_4 (a0 : Nat) : Nat → Int32 → Int32 → Int32 → zS → Option (Int32 × zS)
  | 0, _, _, _, _ => none
  | n + 1, x1, x2, x3, σ => zbr ((σ.1 a0 14) = 0) (zlt (zpi σ a0 0 (1 : Int32)) (fun σ2 => some ((0 : Int32), σ2))) (zck (zok 100 (WM.2 (σ.2 a0 15)) (4 : Int32)) (zbr ((σ.1 (σ.2 a0 15) (4 : Int32).toNatClampNeg) ≤ x3) (zlt (zpi σ a0 0 (1 : Int32)) (fun σ3 => some ((0 : Int32), σ3))) (zbd (f_X11_doneNow a0 x3 σ) (fun r4 σ5 => zbr (r4 = (-2 : Int32)) (zbr (x2 = x1) (zlt (zpi σ5 a0 0 (0 : Int32)) (fun σ6 => some (x3, σ6))) (zlt (x2 + (1 : Int32)) (fun v7 => f_X11_led_49 a0 (f_X11_led_4 a0 n) x1 v7 x3 σ5))) (f_X11_led_49 a0 (f_X11_led_4 a0 n) x1 x2 x3 σ5)))))
theorem t_X11_led_4 (X : zX) (d : Nat) (hd : 7 ≤ d + 1) (a0 : Nat) (h0 : WM.2 a0 = (11, 0)) : ∀ (n : Nat) (x1 : Int32) (x2 : Int32) (x3 : Int32) (σ : zS), zK X WM (zrm (d + 1)) M_X11_led (zZ X WM zeI) 4 [some (.ref a0), some (.int x1), some (.int x2), some (.int x3)] [] σ (f_X11_led_4 a0 n x1 x2 x3 σ) := by
  intro n
  induction n with
  | zero => intro x1 x2 x3 σ; exact z_none
  | succ n ih =>
    intro x1 x2 x3 σ
    rw [f_X11_led_4]
    refine z_aload0 4 5 rfl rfl ?_
    refine z_getI 5 8 14 rfl rfl zf_X11_191 rfl h0 ?_
    refine z_if_eq 6 11 55 rfl rfl (by decide) ?_ ?_
    · refine z_aload0 30 56 rfl rfl ?_
      refine z_iconst 31 57 rfl rfl ci_1 ?_
      refine z_putI 32 60 0 rfl rfl zf_X11_65 rfl rfl rfl h0 (fun σ2 => ?_)
      refine z_iconst 33 61 rfl rfl ci_0 ?_
      exact z_iret 34 rfl rfl
    · refine z_iload3 7 12 rfl rfl ?_
      refine z_aload0 8 13 rfl rfl ?_
      refine z_getR 9 16 15 rfl rfl zf_X11_20 rfl h0 ?_
      refine z_iconst 10 17 rfl rfl ci_4 ?_
      refine z_iald 11 18 rfl rfl ?_
      refine z_icmp_ge 12 21 55 rfl rfl (by decide) ?_ ?_
      · refine z_aload0 30 56 rfl rfl ?_
        refine z_iconst 31 57 rfl rfl ci_1 ?_
        refine z_putI 32 60 0 rfl rfl zf_X11_65 rfl rfl rfl h0 (fun σ3 => ?_)
        refine z_iconst 33 61 rfl rfl ci_0 ?_
        exact z_iret 34 rfl rfl
      · refine z_aload0 13 22 rfl rfl ?_
        refine z_iload3 14 23 rfl rfl ?_
        refine z_cV1I 15 26 rfl rfl zl_X11_339 F_X11_doneNow (zR_rm (by omega)) (c_X11_doneNow X d (by omega) a0 x3 σ) ⟨by decide, rfl, rfl⟩ h0 rfl (Nat.le_of_ble_eq_true rfl) (fun r4 σ5 => ?_)
        refine z_bipush 16 28 rfl rfl cb_m2 ?_
        refine z_icmp_eq 17 31 34 rfl rfl (by decide) ?_ ?_
        · refine z_iload2 19 35 rfl rfl ?_
          refine z_iload1 20 36 rfl rfl ?_
          refine z_icmp_ne 21 39 46 rfl rfl (by decide) ?_ ?_
          · refine z_aload0 22 40 rfl rfl ?_
            refine z_iconst 23 41 rfl rfl ci_0 ?_
            refine z_putI 24 44 0 rfl rfl zf_X11_65 rfl rfl rfl h0 (fun σ6 => ?_)
            refine z_iload3 25 45 rfl rfl ?_
            exact z_iret 26 rfl rfl
          · refine z_iinc2 27 49 rfl rfl ci_1 rfl (fun v7 => ?_)
            exact t_X11_led_49 X d hd a0 h0 (f_X11_led_4 a0 n) ih x1 v7 x3 σ5
        · refine z_goto 18 49 rfl (by decide) ?_
          exact t_X11_led_49 X d hd a0 h0 (f_X11_led_4 a0 n) ih x1 x2 x3 σ5
def f_X11_led (a0 : Nat) (x1 : Int32) (σ : zS) : Option (Int32 × zS) := zck (WM.2 a0 = (11, 0)) (zlt (0 : Int32) (fun v8 => zlt (0 : Int32) (fun v9 => f_X11_led_4 a0 FU x1 v8 v9 σ)))
theorem c_X11_led (X : zX) (d : Nat) (hd : 7 ≤ d) (a0 : Nat) (x1 : Int32) (σ : zS) : ∀ (r : Int32) (σ' : zS), f_X11_led a0 x1 σ = some (r, σ') → zCN X WM d M_X11_led [.ref a0, .int x1] σ (zeI r, σ') := by
  obtain ⟨d, rfl⟩ : ∃ e, d = e + 1 := ⟨d - 1, by omega⟩
  refine z_entry [.ref a0, .int x1] (by decide +kernel) T_X11_led (Nat.le_of_ble_eq_true rfl) ?_
  show zK X WM (zrm (d + 1)) M_X11_led (zZ X WM zeI) 0 [some (.ref a0), some (.int x1), none, none] [] σ (f_X11_led a0 x1 σ)
  unfold f_X11_led
  refine z_ck (fun h0 => ?_)
  refine z_iconst 0 1 rfl rfl ci_0 ?_
  refine z_istore2 1 2 rfl rfl rfl (fun v8 => ?_)
  refine z_iconst 2 3 rfl rfl ci_0 ?_
  refine z_istore3 3 4 rfl rfl rfl (fun v9 => ?_)
  exact t_X11_led_4 X d hd a0 h0  FU x1 v8 v9 σ
def f_X11_size (a0 : Nat) (x1 : Int32) (σ : zS) : Option (Int32 × zS) := zck (WM.2 a0 = (11, 0)) (zlt (zpi σ a0 0 (0 : Int32)) (fun σ1 => zbr (x1 = (11 : Int32)) (some ((σ1.1 a0 2), σ1)) (zbr ((σ1.1 a0 14) = 0) (zbd (f_X11_in x1 (0 : Int32) (10 : Int32) σ1) (fun r2 σ3 => zbr (r2 = 0) (some ((-1 : Int32), σ3)) (some ((0 : Int32), σ3)))) (zbr (x1 = (5 : Int32)) (zck (zok 100 (WM.2 (σ1.2 a0 19)) (48 : Int32)) (some ((σ1.1 (σ1.2 a0 19) (48 : Int32).toNatClampNeg), σ1))) (zbd (f_X11_in x1 (0 : Int32) (8 : Int32) σ1) (fun r4 σ5 => zbr (r4 = 0) (zbr (x1 = (9 : Int32)) (some ((σ5.1 a0 22), σ5)) (zbr (x1 = (10 : Int32)) (some ((σ5.1 a0 23), σ5)) (some ((-1 : Int32), σ5)))) (zck (zok 100 (WM.2 (σ5.2 a0 15)) x1) (some ((σ5.1 (σ5.2 a0 15) x1.toNatClampNeg), σ5)))))))))
theorem c_X11_size (X : zX) (d : Nat) (hd : 1 ≤ d) (a0 : Nat) (x1 : Int32) (σ : zS) : ∀ (r : Int32) (σ' : zS), f_X11_size a0 x1 σ = some (r, σ') → zCN X WM d M_X11_size [.ref a0, .int x1] σ (zeI r, σ') := by
  obtain ⟨d, rfl⟩ : ∃ e, d = e + 1 := ⟨d - 1, by omega⟩
  refine z_entry [.ref a0, .int x1] (by decide +kernel) T_X11_size (Nat.le_of_ble_eq_true rfl) ?_
  show zK X WM (zrm (d + 1)) M_X11_size (zZ X WM zeI) 0 [some (.ref a0), some (.int x1)] [] σ (f_X11_size a0 x1 σ)
  unfold f_X11_size
  refine z_ck (fun h0 => ?_)
  refine z_aload0 0 1 rfl rfl ?_
  refine z_iconst 1 2 rfl rfl ci_0 ?_
  refine z_putI 2 5 0 rfl rfl zf_X11_65 rfl rfl rfl h0 (fun σ1 => ?_)
  refine z_iload1 3 6 rfl rfl ?_
  refine z_bipush 4 8 rfl rfl cb_11 ?_
  refine z_icmp_ne 5 11 16 rfl rfl (by decide) ?_ ?_
  · refine z_aload0 6 12 rfl rfl ?_
    refine z_getI 7 15 2 rfl rfl zf_X11_71 rfl h0 ?_
    exact z_iret 8 rfl rfl
  · refine z_aload0 9 17 rfl rfl ?_
    refine z_getI 10 20 14 rfl rfl zf_X11_191 rfl h0 ?_
    refine z_if_ne 11 23 39 rfl rfl (by decide) ?_ ?_
    · refine z_iload1 12 24 rfl rfl ?_
      refine z_iconst 13 25 rfl rfl ci_0 ?_
      refine z_bipush 14 27 rfl rfl cb_10 ?_
      refine z_cS3I 15 30 rfl rfl zl_X11_157 F_X11_in (zR_rm (by omega)) (c_X11_in X d x1 (0 : Int32) (10 : Int32) σ1) rfl (Nat.le_of_ble_eq_true rfl) (fun r2 σ3 => ?_)
      refine z_if_eq 16 33 37 rfl rfl (by decide) ?_ ?_
      · refine z_iconst 19 38 rfl rfl ci_m1 ?_
        exact z_iret 20 rfl rfl
      · refine z_iconst 17 34 rfl rfl ci_0 ?_
        refine z_goto 18 38 rfl (by decide) ?_
        exact z_iret 20 rfl rfl
    · refine z_iload1 21 40 rfl rfl ?_
      refine z_iconst 22 41 rfl rfl ci_5 ?_
      refine z_icmp_ne 23 44 52 rfl rfl (by decide) ?_ ?_
      · refine z_aload0 24 45 rfl rfl ?_
        refine z_getR 25 48 19 rfl rfl zf_X11_32 rfl h0 ?_
        refine z_bipush 26 50 rfl rfl cb_48 ?_
        refine z_iald 27 51 rfl rfl ?_
        exact z_iret 28 rfl rfl
      · refine z_iload1 29 53 rfl rfl ?_
        refine z_iconst 30 54 rfl rfl ci_0 ?_
        refine z_bipush 31 56 rfl rfl cb_8 ?_
        refine z_cS3I 32 59 rfl rfl zl_X11_157 F_X11_in (zR_rm (by omega)) (c_X11_in X d x1 (0 : Int32) (8 : Int32) σ1) rfl (Nat.le_of_ble_eq_true rfl) (fun r4 σ5 => ?_)
        refine z_if_eq 33 62 69 rfl rfl (by decide) ?_ ?_
        · refine z_iload1 39 70 rfl rfl ?_
          refine z_bipush 40 72 rfl rfl cb_9 ?_
          refine z_icmp_ne 41 75 82 rfl rfl (by decide) ?_ ?_
          · refine z_aload0 42 76 rfl rfl ?_
            refine z_getI 43 79 22 rfl rfl zf_X11_194 rfl h0 ?_
            refine z_goto 44 96 rfl (by decide) ?_
            exact z_iret 52 rfl rfl
          · refine z_iload1 45 83 rfl rfl ?_
            refine z_bipush 46 85 rfl rfl cb_10 ?_
            refine z_icmp_ne 47 88 95 rfl rfl (by decide) ?_ ?_
            · refine z_aload0 48 89 rfl rfl ?_
              refine z_getI 49 92 23 rfl rfl zf_X11_197 rfl h0 ?_
              refine z_goto 50 96 rfl (by decide) ?_
              exact z_iret 52 rfl rfl
            · refine z_iconst 51 96 rfl rfl ci_m1 ?_
              exact z_iret 52 rfl rfl
        · refine z_aload0 34 63 rfl rfl ?_
          refine z_getR 35 66 15 rfl rfl zf_X11_20 rfl h0 ?_
          refine z_iload1 36 67 rfl rfl ?_
          refine z_iald 37 68 rfl rfl ?_
          exact z_iret 38 rfl rfl
def f_X11_trouble (a0 : Nat) (σ : zS) : Option (Int32 × zS) := zck (WM.2 a0 = (11, 0)) (zlt (zpi σ a0 0 (0 : Int32)) (fun σ1 => some ((σ1.1 a0 11), σ1)))
theorem c_X11_trouble (X : zX) (d : Nat) (a0 : Nat) (σ : zS) : ∀ (r : Int32) (σ' : zS), f_X11_trouble a0 σ = some (r, σ') → zCN X WM d M_X11_trouble [.ref a0] σ (zeI r, σ') := by
  refine z_entry [.ref a0] (by decide +kernel) T_X11_trouble (Nat.le_of_ble_eq_true rfl) ?_
  show zK X WM (zrm d) M_X11_trouble (zZ X WM zeI) 0 [some (.ref a0)] [] σ (f_X11_trouble a0 σ)
  unfold f_X11_trouble
  refine z_ck (fun h0 => ?_)
  refine z_aload0 0 1 rfl rfl ?_
  refine z_iconst 1 2 rfl rfl ci_0 ?_
  refine z_putI 2 5 0 rfl rfl zf_X11_65 rfl rfl rfl h0 (fun σ1 => ?_)
  refine z_aload0 3 6 rfl rfl ?_
  refine z_getI 4 9 11 rfl rfl zf_X11_68 rfl h0 ?_
  exact z_iret 5 rfl rfl
