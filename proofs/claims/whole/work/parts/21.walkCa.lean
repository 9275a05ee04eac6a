def f_X0_add (a0 : Nat) (x1 : Int32) (x2 : Int32) (x3 : Int32) (x4 : Int32) (σ : zS) : Option (Unit × zS) := zck (WC.2 a0 = (0, 0)) (zbr ((σ.1 a0 4) < (6 : Int32)) (zck (zok 100 (WC.2 (σ.2 a0 0)) (σ.1 a0 4)) (zlt (zpi σ (σ.2 a0 0) (σ.1 a0 4).toNatClampNeg x1) (fun σ1 => zck (zok 100 (WC.2 (σ1.2 a0 1)) (σ1.1 a0 4)) (zlt (zpi σ1 (σ1.2 a0 1) (σ1.1 a0 4).toNatClampNeg x2) (fun σ2 => zck (zok 100 (WC.2 (σ2.2 a0 2)) (σ2.1 a0 4)) (zlt (zpi σ2 (σ2.2 a0 2) (σ2.1 a0 4).toNatClampNeg x3) (fun σ3 => zck (zok 100 (WC.2 (σ3.2 a0 3)) (σ3.1 a0 4)) (zlt (zpi σ3 (σ3.2 a0 3) (σ3.1 a0 4).toNatClampNeg x4) (fun σ4 => zlt (zpi σ4 a0 4 ((σ4.1 a0 4) + (1 : Int32))) (fun σ5 => some ((), σ5))))))))))) (some ((), σ)))
theorem c_X0_add (X : zX) (d : Nat) (a0 : Nat) (x1 : Int32) (x2 : Int32) (x3 : Int32) (x4 : Int32) (σ : zS) : ∀ (r : Unit) (σ' : zS), f_X0_add a0 x1 x2 x3 x4 σ = some (r, σ') → zCN X WC d M_X0_add [.ref a0, .int x1, .int x2, .int x3, .int x4] σ (zeV r, σ') := by
  refine z_entry [.ref a0, .int x1, .int x2, .int x3, .int x4] (by decide +kernel) T_X0_add (Nat.le_of_ble_eq_true rfl) ?_
  show zK X WC (zrm d) M_X0_add (zZ X WC zeV) 0 [some (.ref a0), some (.int x1), some (.int x2), some (.int x3), some (.int x4)] [] σ (f_X0_add a0 x1 x2 x3 x4 σ)
  unfold f_X0_add
  refine z_ck (fun h0 => ?_)
  refine z_aload0 0 1 rfl rfl ?_
  refine z_getI 1 4 4 rfl rfl zf_X0_24 rfl h0 ?_
  refine z_bipush 2 6 rfl rfl cb_6 ?_
  refine z_icmp_lt 3 9 10 rfl rfl (by decide) ?_ ?_
  · refine z_aload0 5 11 rfl rfl ?_
    refine z_getR 6 14 0 rfl rfl zf_X0_9 rfl h0 ?_
    refine z_aload0 7 15 rfl rfl ?_
    refine z_getI 8 18 4 rfl rfl zf_X0_24 rfl h0 ?_
    refine z_iload1 9 19 rfl rfl ?_
    refine z_iast 10 20 rfl rfl (fun σ1 => ?_)
    refine z_aload0 11 21 rfl rfl ?_
    refine z_getR 12 24 1 rfl rfl zf_X0_15 rfl h0 ?_
    refine z_aload0 13 25 rfl rfl ?_
    refine z_getI 14 28 4 rfl rfl zf_X0_24 rfl h0 ?_
    refine z_iload2 15 29 rfl rfl ?_
    refine z_iast 16 30 rfl rfl (fun σ2 => ?_)
    refine z_aload0 17 31 rfl rfl ?_
    refine z_getR 18 34 2 rfl rfl zf_X0_18 rfl h0 ?_
    refine z_aload0 19 35 rfl rfl ?_
    refine z_getI 20 38 4 rfl rfl zf_X0_24 rfl h0 ?_
    refine z_iload3 21 39 rfl rfl ?_
    refine z_iast 22 40 rfl rfl (fun σ3 => ?_)
    refine z_aload0 23 41 rfl rfl ?_
    refine z_getR 24 44 3 rfl rfl zf_X0_21 rfl h0 ?_
    refine z_aload0 25 45 rfl rfl ?_
    refine z_getI 26 48 4 rfl rfl zf_X0_24 rfl h0 ?_
    refine z_iload4 27 50 rfl rfl ?_
    refine z_iast 28 51 rfl rfl (fun σ4 => ?_)
    refine z_aload0 29 52 rfl rfl ?_
    refine z_dup 30 53 rfl rfl rfl ?_
    refine z_getI 31 56 4 rfl rfl zf_X0_24 rfl h0 ?_
    refine z_iconst 32 57 rfl rfl ci_1 ?_
    refine z_iadd 33 58 rfl rfl ?_
    refine z_putI 34 61 4 rfl rfl zf_X0_24 rfl rfl rfl h0 (fun σ5 => ?_)
    exact z_vret 35 rfl rfl
  · exact z_vret 4 rfl rfl
def f_X0_paysOf_30 (a0 : Nat) (H4 : Int32 → Int32 → Int32 → zS → Option (Int32 × zS)) (x1 : Int32) (x2 : Int32) (x3 : Int32) (σ : zS) : Option (Int32 × zS) := zlt (x3 + (1 : Int32)) (fun v1 => H4 x1 x2 v1 σ)
theorem t_X0_paysOf_30 (X : zX) (d : Nat) (a0 : Nat) (h0 : WC.2 a0 = (0, 0)) (H4 : Int32 → Int32 → Int32 → zS → Option (Int32 × zS)) (hH4 : ∀ (x1 : Int32) (x2 : Int32) (x3 : Int32) (σ : zS), zK X WC (zrm d) M_X0_paysOf (zZ X WC zeI) 4 [some (.ref a0), some (.int x1), some (.int x2), some (.int x3)] [] σ (H4 x1 x2 x3 σ)) (x1 : Int32) (x2 : Int32) (x3 : Int32) (σ : zS) : zK X WC (zrm d) M_X0_paysOf (zZ X WC zeI) 30 [some (.ref a0), some (.int x1), some (.int x2), some (.int x3)] [] σ (f_X0_paysOf_30 a0 H4 x1 x2 x3 σ) := by
  unfold f_X0_paysOf_30
  refine z_iinc3 22 33 rfl rfl ci_1 rfl (fun v1 => ?_)
  refine z_goto 23 4 rfl (by decide) ?_
  exact hH4 x1 x2 v1 σ
def f_X0_paysOf_4 (a0 : Nat) : Nat → Int32 → Int32 → Int32 → zS → Option (Int32 × zS)
  | 0, _, _, _, _ => none
  | n + 1, x1, x2, x3, σ => zbr ((σ.1 a0 4) ≤ x3) (some (x2, σ)) (zbr (((x1 >>> (x3 &&& 31)) &&& (1 : Int32)) = (1 : Int32)) (zck (zok 100 (WC.2 (σ.2 a0 3)) x3) (zlt (x2 + (σ.1 (σ.2 a0 3) x3.toNatClampNeg)) (fun v2 => f_X0_paysOf_30 a0 (f_X0_paysOf_4 a0 n) x1 v2 x3 σ))) (f_X0_paysOf_30 a0 (f_X0_paysOf_4 a0 n) x1 x2 x3 σ))
theorem t_X0_paysOf_4 (X : zX) (d : Nat) (a0 : Nat) (h0 : WC.2 a0 = (0, 0)) : ∀ (n : Nat) (x1 : Int32) (x2 : Int32) (x3 : Int32) (σ : zS), zK X WC (zrm d) M_X0_paysOf (zZ X WC zeI) 4 [some (.ref a0), some (.int x1), some (.int x2), some (.int x3)] [] σ (f_X0_paysOf_4 a0 n x1 x2 x3 σ) := by
  intro n
  induction n with
  | zero => intro x1 x2 x3 σ; exact z_none
  | succ n ih =>
    intro x1 x2 x3 σ
    rw [f_X0_paysOf_4]
    refine z_iload3 4 5 rfl rfl ?_
    refine z_aload0 5 6 rfl rfl ?_
    refine z_getI 6 9 4 rfl rfl zf_X0_24 rfl h0 ?_
    refine z_icmp_ge 7 12 36 rfl rfl (by decide) ?_ ?_
    · refine z_iload2 24 37 rfl rfl ?_
      exact z_iret 25 rfl rfl
    · refine z_iload1 8 13 rfl rfl ?_
      refine z_iload3 9 14 rfl rfl ?_
      refine z_ishr 10 15 rfl rfl ?_
      refine z_iconst 11 16 rfl rfl ci_1 ?_
      refine z_iand 12 17 rfl rfl ?_
      refine z_iconst 13 18 rfl rfl ci_1 ?_
      refine z_icmp_ne 14 21 30 rfl rfl (by decide) ?_ ?_
      · refine z_iload2 15 22 rfl rfl ?_
        refine z_aload0 16 23 rfl rfl ?_
        refine z_getR 17 26 3 rfl rfl zf_X0_21 rfl h0 ?_
        refine z_iload3 18 27 rfl rfl ?_
        refine z_iald 19 28 rfl rfl ?_
        refine z_iadd 20 29 rfl rfl ?_
        refine z_istore2 21 30 rfl rfl rfl (fun v2 => ?_)
        exact t_X0_paysOf_30 X d a0 h0 (f_X0_paysOf_4 a0 n) ih x1 v2 x3 σ
      · exact t_X0_paysOf_30 X d a0 h0 (f_X0_paysOf_4 a0 n) ih x1 x2 x3 σ
def f_X0_paysOf (a0 : Nat) (x1 : Int32) (σ : zS) : Option (Int32 × zS) := zck (WC.2 a0 = (0, 0)) (zlt (0 : Int32) (fun v3 => zlt (0 : Int32) (fun v4 => f_X0_paysOf_4 a0 FU x1 v3 v4 σ)))
theorem c_X0_paysOf (X : zX) (d : Nat) (a0 : Nat) (x1 : Int32) (σ : zS) : ∀ (r : Int32) (σ' : zS), f_X0_paysOf a0 x1 σ = some (r, σ') → zCN X WC d M_X0_paysOf [.ref a0, .int x1] σ (zeI r, σ') := by
  refine z_entry [.ref a0, .int x1] (by decide +kernel) T_X0_paysOf (Nat.le_of_ble_eq_true rfl) ?_
  show zK X WC (zrm d) M_X0_paysOf (zZ X WC zeI) 0 [some (.ref a0), some (.int x1), none, none] [] σ (f_X0_paysOf a0 x1 σ)
  unfold f_X0_paysOf
  refine z_ck (fun h0 => ?_)
  refine z_iconst 0 1 rfl rfl ci_0 ?_
  refine z_istore2 1 2 rfl rfl rfl (fun v3 => ?_)
  refine z_iconst 2 3 rfl rfl ci_0 ?_
  refine z_istore3 3 4 rfl rfl rfl (fun v4 => ?_)
  exact t_X0_paysOf_4 X d a0 h0  FU x1 v3 v4 σ
def f_X0_paysBy_45 (a0 : Nat) (H5 : Int32 → Int32 → Int32 → Int32 → zS → Option (Int32 × zS)) (x1 : Int32) (x2 : Int32) (x3 : Int32) (x4 : Int32) (σ : zS) : Option (Int32 × zS) := zlt (x4 + (1 : Int32)) (fun v1 => H5 x1 x2 x3 v1 σ)
theorem t_X0_paysBy_45 (X : zX) (d : Nat) (a0 : Nat) (h0 : WC.2 a0 = (0, 0)) (H5 : Int32 → Int32 → Int32 → Int32 → zS → Option (Int32 × zS)) (hH5 : ∀ (x1 : Int32) (x2 : Int32) (x3 : Int32) (x4 : Int32) (σ : zS), zK X WC (zrm d) M_X0_paysBy (zZ X WC zeI) 5 [some (.ref a0), some (.int x1), some (.int x2), some (.int x3), some (.int x4)] [] σ (H5 x1 x2 x3 x4 σ)) (x1 : Int32) (x2 : Int32) (x3 : Int32) (x4 : Int32) (σ : zS) : zK X WC (zrm d) M_X0_paysBy (zZ X WC zeI) 45 [some (.ref a0), some (.int x1), some (.int x2), some (.int x3), some (.int x4)] [] σ (f_X0_paysBy_45 a0 H5 x1 x2 x3 x4 σ) := by
  unfold f_X0_paysBy_45
  refine z_iinc4 28 48 rfl rfl ci_1 rfl (fun v1 => ?_)
  refine z_goto 29 5 rfl (by decide) ?_
  exact hH5 x1 x2 x3 v1 σ
def f_X0_paysBy_5 (a0 : Nat) : Nat → Int32 → Int32 → Int32 → Int32 → zS → Option (Int32 × zS)
  | 0, _, _, _, _, _ => none
  | n + 1, x1, x2, x3, x4, σ => zbr ((σ.1 a0 4) ≤ x4) (some (x3, σ)) (zbr (((x2 >>> (x4 &&& 31)) &&& (1 : Int32)) = (1 : Int32)) (zck (zok 100 (WC.2 (σ.2 a0 0)) x4) (zbr ((σ.1 (σ.2 a0 0) x4.toNatClampNeg) = x1) (zck (zok 100 (WC.2 (σ.2 a0 3)) x4) (zlt (x3 + (σ.1 (σ.2 a0 3) x4.toNatClampNeg)) (fun v2 => f_X0_paysBy_45 a0 (f_X0_paysBy_5 a0 n) x1 x2 v2 x4 σ))) (f_X0_paysBy_45 a0 (f_X0_paysBy_5 a0 n) x1 x2 x3 x4 σ))) (f_X0_paysBy_45 a0 (f_X0_paysBy_5 a0 n) x1 x2 x3 x4 σ))
theorem t_X0_paysBy_5 (X : zX) (d : Nat) (a0 : Nat) (h0 : WC.2 a0 = (0, 0)) : ∀ (n : Nat) (x1 : Int32) (x2 : Int32) (x3 : Int32) (x4 : Int32) (σ : zS), zK X WC (zrm d) M_X0_paysBy (zZ X WC zeI) 5 [some (.ref a0), some (.int x1), some (.int x2), some (.int x3), some (.int x4)] [] σ (f_X0_paysBy_5 a0 n x1 x2 x3 x4 σ) := by
  intro n
  induction n with
  | zero => intro x1 x2 x3 x4 σ; exact z_none
  | succ n ih =>
    intro x1 x2 x3 x4 σ
    rw [f_X0_paysBy_5]
    refine z_iload4 4 7 rfl rfl ?_
    refine z_aload0 5 8 rfl rfl ?_
    refine z_getI 6 11 4 rfl rfl zf_X0_24 rfl h0 ?_
    refine z_icmp_ge 7 14 51 rfl rfl (by decide) ?_ ?_
    · refine z_iload3 30 52 rfl rfl ?_
      exact z_iret 31 rfl rfl
    · refine z_iload2 8 15 rfl rfl ?_
      refine z_iload4 9 17 rfl rfl ?_
      refine z_ishr 10 18 rfl rfl ?_
      refine z_iconst 11 19 rfl rfl ci_1 ?_
      refine z_iand 12 20 rfl rfl ?_
      refine z_iconst 13 21 rfl rfl ci_1 ?_
      refine z_icmp_ne 14 24 45 rfl rfl (by decide) ?_ ?_
      · refine z_aload0 15 25 rfl rfl ?_
        refine z_getR 16 28 0 rfl rfl zf_X0_9 rfl h0 ?_
        refine z_iload4 17 30 rfl rfl ?_
        refine z_iald 18 31 rfl rfl ?_
        refine z_iload1 19 32 rfl rfl ?_
        refine z_icmp_ne 20 35 45 rfl rfl (by decide) ?_ ?_
        · refine z_iload3 21 36 rfl rfl ?_
          refine z_aload0 22 37 rfl rfl ?_
          refine z_getR 23 40 3 rfl rfl zf_X0_21 rfl h0 ?_
          refine z_iload4 24 42 rfl rfl ?_
          refine z_iald 25 43 rfl rfl ?_
          refine z_iadd 26 44 rfl rfl ?_
          refine z_istore3 27 45 rfl rfl rfl (fun v2 => ?_)
          exact t_X0_paysBy_45 X d a0 h0 (f_X0_paysBy_5 a0 n) ih x1 x2 v2 x4 σ
        · exact t_X0_paysBy_45 X d a0 h0 (f_X0_paysBy_5 a0 n) ih x1 x2 x3 x4 σ
      · exact t_X0_paysBy_45 X d a0 h0 (f_X0_paysBy_5 a0 n) ih x1 x2 x3 x4 σ
def f_X0_paysBy (a0 : Nat) (x1 : Int32) (x2 : Int32) (σ : zS) : Option (Int32 × zS) := zck (WC.2 a0 = (0, 0)) (zlt (0 : Int32) (fun v3 => zlt (0 : Int32) (fun v4 => f_X0_paysBy_5 a0 FU x1 x2 v3 v4 σ)))
theorem c_X0_paysBy (X : zX) (d : Nat) (a0 : Nat) (x1 : Int32) (x2 : Int32) (σ : zS) : ∀ (r : Int32) (σ' : zS), f_X0_paysBy a0 x1 x2 σ = some (r, σ') → zCN X WC d M_X0_paysBy [.ref a0, .int x1, .int x2] σ (zeI r, σ') := by
  refine z_entry [.ref a0, .int x1, .int x2] (by decide +kernel) T_X0_paysBy (Nat.le_of_ble_eq_true rfl) ?_
  show zK X WC (zrm d) M_X0_paysBy (zZ X WC zeI) 0 [some (.ref a0), some (.int x1), some (.int x2), none, none] [] σ (f_X0_paysBy a0 x1 x2 σ)
  unfold f_X0_paysBy
  refine z_ck (fun h0 => ?_)
  refine z_iconst 0 1 rfl rfl ci_0 ?_
  refine z_istore3 1 2 rfl rfl rfl (fun v3 => ?_)
  refine z_iconst 2 3 rfl rfl ci_0 ?_
  refine z_istore4 3 5 rfl rfl rfl (fun v4 => ?_)
  exact t_X0_paysBy_5 X d a0 h0  FU x1 x2 v3 v4 σ
def f_X0_inchesAt_45 (a0 : Nat) (H5 : Int32 → Int32 → Int32 → Int32 → zS → Option (Int32 × zS)) (x1 : Int32) (x2 : Int32) (x3 : Int32) (x4 : Int32) (σ : zS) : Option (Int32 × zS) := zlt (x4 + (1 : Int32)) (fun v1 => H5 x1 x2 x3 v1 σ)
theorem t_X0_inchesAt_45 (X : zX) (d : Nat) (a0 : Nat) (h0 : WC.2 a0 = (0, 0)) (H5 : Int32 → Int32 → Int32 → Int32 → zS → Option (Int32 × zS)) (hH5 : ∀ (x1 : Int32) (x2 : Int32) (x3 : Int32) (x4 : Int32) (σ : zS), zK X WC (zrm d) M_X0_inchesAt (zZ X WC zeI) 5 [some (.ref a0), some (.int x1), some (.int x2), some (.int x3), some (.int x4)] [] σ (H5 x1 x2 x3 x4 σ)) (x1 : Int32) (x2 : Int32) (x3 : Int32) (x4 : Int32) (σ : zS) : zK X WC (zrm d) M_X0_inchesAt (zZ X WC zeI) 45 [some (.ref a0), some (.int x1), some (.int x2), some (.int x3), some (.int x4)] [] σ (f_X0_inchesAt_45 a0 H5 x1 x2 x3 x4 σ) := by
  unfold f_X0_inchesAt_45
  refine z_iinc4 28 48 rfl rfl ci_1 rfl (fun v1 => ?_)
  refine z_goto 29 5 rfl (by decide) ?_
  exact hH5 x1 x2 x3 v1 σ
def f_X0_inchesAt_5 (a0 : Nat) : Nat → Int32 → Int32 → Int32 → Int32 → zS → Option (Int32 × zS)
  | 0, _, _, _, _, _ => none
  | n + 1, x1, x2, x3, x4, σ => zbr ((σ.1 a0 4) ≤ x4) (some (x3, σ)) (zbr (((x2 >>> (x4 &&& 31)) &&& (1 : Int32)) = (1 : Int32)) (zck (zok 100 (WC.2 (σ.2 a0 1)) x4) (zbr ((σ.1 (σ.2 a0 1) x4.toNatClampNeg) = x1) (zck (zok 100 (WC.2 (σ.2 a0 2)) x4) (zlt (x3 + (σ.1 (σ.2 a0 2) x4.toNatClampNeg)) (fun v2 => f_X0_inchesAt_45 a0 (f_X0_inchesAt_5 a0 n) x1 x2 v2 x4 σ))) (f_X0_inchesAt_45 a0 (f_X0_inchesAt_5 a0 n) x1 x2 x3 x4 σ))) (f_X0_inchesAt_45 a0 (f_X0_inchesAt_5 a0 n) x1 x2 x3 x4 σ))
theorem t_X0_inchesAt_5 (X : zX) (d : Nat) (a0 : Nat) (h0 : WC.2 a0 = (0, 0)) : ∀ (n : Nat) (x1 : Int32) (x2 : Int32) (x3 : Int32) (x4 : Int32) (σ : zS), zK X WC (zrm d) M_X0_inchesAt (zZ X WC zeI) 5 [some (.ref a0), some (.int x1), some (.int x2), some (.int x3), some (.int x4)] [] σ (f_X0_inchesAt_5 a0 n x1 x2 x3 x4 σ) := by
  intro n
  induction n with
  | zero => intro x1 x2 x3 x4 σ; exact z_none
  | succ n ih =>
    intro x1 x2 x3 x4 σ
    rw [f_X0_inchesAt_5]
    refine z_iload4 4 7 rfl rfl ?_
    refine z_aload0 5 8 rfl rfl ?_
    refine z_getI 6 11 4 rfl rfl zf_X0_24 rfl h0 ?_
    refine z_icmp_ge 7 14 51 rfl rfl (by decide) ?_ ?_
    · refine z_iload3 30 52 rfl rfl ?_
      exact z_iret 31 rfl rfl
    · refine z_iload2 8 15 rfl rfl ?_
      refine z_iload4 9 17 rfl rfl ?_
      refine z_ishr 10 18 rfl rfl ?_
      refine z_iconst 11 19 rfl rfl ci_1 ?_
      refine z_iand 12 20 rfl rfl ?_
      refine z_iconst 13 21 rfl rfl ci_1 ?_
      refine z_icmp_ne 14 24 45 rfl rfl (by decide) ?_ ?_
      · refine z_aload0 15 25 rfl rfl ?_
        refine z_getR 16 28 1 rfl rfl zf_X0_15 rfl h0 ?_
        refine z_iload4 17 30 rfl rfl ?_
        refine z_iald 18 31 rfl rfl ?_
        refine z_iload1 19 32 rfl rfl ?_
        refine z_icmp_ne 20 35 45 rfl rfl (by decide) ?_ ?_
        · refine z_iload3 21 36 rfl rfl ?_
          refine z_aload0 22 37 rfl rfl ?_
          refine z_getR 23 40 2 rfl rfl zf_X0_18 rfl h0 ?_
          refine z_iload4 24 42 rfl rfl ?_
          refine z_iald 25 43 rfl rfl ?_
          refine z_iadd 26 44 rfl rfl ?_
          refine z_istore3 27 45 rfl rfl rfl (fun v2 => ?_)
          exact t_X0_inchesAt_45 X d a0 h0 (f_X0_inchesAt_5 a0 n) ih x1 x2 v2 x4 σ
        · exact t_X0_inchesAt_45 X d a0 h0 (f_X0_inchesAt_5 a0 n) ih x1 x2 x3 x4 σ
      · exact t_X0_inchesAt_45 X d a0 h0 (f_X0_inchesAt_5 a0 n) ih x1 x2 x3 x4 σ
def f_X0_inchesAt (a0 : Nat) (x1 : Int32) (x2 : Int32) (σ : zS) : Option (Int32 × zS) := zck (WC.2 a0 = (0, 0)) (zlt (0 : Int32) (fun v3 => zlt (0 : Int32) (fun v4 => f_X0_inchesAt_5 a0 FU x1 x2 v3 v4 σ)))
theorem c_X0_inchesAt (X : zX) (d : Nat) (a0 : Nat) (x1 : Int32) (x2 : Int32) (σ : zS) : ∀ (r : Int32) (σ' : zS), f_X0_inchesAt a0 x1 x2 σ = some (r, σ') → zCN X WC d M_X0_inchesAt [.ref a0, .int x1, .int x2] σ (zeI r, σ') := by
  refine z_entry [.ref a0, .int x1, .int x2] (by decide +kernel) T_X0_inchesAt (Nat.le_of_ble_eq_true rfl) ?_
  show zK X WC (zrm d) M_X0_inchesAt (zZ X WC zeI) 0 [some (.ref a0), some (.int x1), some (.int x2), none, none] [] σ (f_X0_inchesAt a0 x1 x2 σ)
  unfold f_X0_inchesAt
  refine z_ck (fun h0 => ?_)
  refine z_iconst 0 1 rfl rfl ci_0 ?_
  refine z_istore3 1 2 rfl rfl rfl (fun v3 => ?_)
  refine z_iconst 2 3 rfl rfl ci_0 ?_
  refine z_istore4 3 5 rfl rfl rfl (fun v4 => ?_)
  exact t_X0_inchesAt_5 X d a0 h0  FU x1 x2 v3 v4 σ
def f_X5_unbeaten_39 (a0 : Nat) (H2 : Int32 → Int32 → zS → Option (Int32 × zS)) (x1 : Int32) (x2 : Int32) (σ : zS) : Option (Int32 × zS) := zlt (x2 + (1 : Int32)) (fun v1 => H2 x1 v1 σ)
theorem t_X5_unbeaten_39 (X : zX) (d : Nat) (a0 : Nat) (h0 : WC.2 a0 = (5, 0)) (H2 : Int32 → Int32 → zS → Option (Int32 × zS)) (hH2 : ∀ (x1 : Int32) (x2 : Int32) (σ : zS), zK X WC (zrm d) M_X5_unbeaten (zZ X WC zeI) 2 [some (.ref a0), some (.int x1), some (.int x2), none] [] σ (H2 x1 x2 σ)) (x1 : Int32) (x2 : Int32) (σ : zS) : zK X WC (zrm d) M_X5_unbeaten (zZ X WC zeI) 39 [some (.ref a0), some (.int x1), some (.int x2), none] [] σ (f_X5_unbeaten_39 a0 H2 x1 x2 σ) := by
  unfold f_X5_unbeaten_39
  refine z_iinc2 29 42 rfl rfl ci_1 rfl (fun v1 => ?_)
  refine z_goto 30 2 rfl (by decide) ?_
  exact hH2 x1 v1 σ
def f_X5_unbeaten_2 (a0 : Nat) : Nat → Int32 → Int32 → zS → Option (Int32 × zS)
  | 0, _, _, _ => none
  | n + 1, x1, x2, σ => zbr ((σ.1 a0 1) ≤ x2) (some ((-1 : Int32), σ)) (zlt ((1 : Int32) <<< (x2 &&& 31)) (fun v2 => zbr ((x1 &&& v2) = 0) (f_X5_unbeaten_39 a0 (f_X5_unbeaten_2 a0 n) x1 x2 σ) (zck (zok 100 (WC.2 (σ.2 a0 0)) x2) (zbr (((x1 &&& (v2 ^^^ (-1 : Int32))) &&& ((σ.1 (σ.2 a0 0) x2.toNatClampNeg) ^^^ (-1 : Int32))) = 0) (some (x2, σ)) (f_X5_unbeaten_39 a0 (f_X5_unbeaten_2 a0 n) x1 x2 σ)))))
theorem t_X5_unbeaten_2 (X : zX) (d : Nat) (a0 : Nat) (h0 : WC.2 a0 = (5, 0)) : ∀ (n : Nat) (x1 : Int32) (x2 : Int32) (σ : zS), zK X WC (zrm d) M_X5_unbeaten (zZ X WC zeI) 2 [some (.ref a0), some (.int x1), some (.int x2), none] [] σ (f_X5_unbeaten_2 a0 n x1 x2 σ) := by
  intro n
  induction n with
  | zero => intro x1 x2 σ; exact z_none
  | succ n ih =>
    intro x1 x2 σ
    rw [f_X5_unbeaten_2]
    refine z_iload2 2 3 rfl rfl ?_
    refine z_aload0 3 4 rfl rfl ?_
    refine z_getI 4 7 1 rfl rfl zf_X5_21 rfl h0 ?_
    refine z_icmp_ge 5 10 45 rfl rfl (by decide) ?_ ?_
    · refine z_iconst 31 46 rfl rfl ci_m1 ?_
      exact z_iret 32 rfl rfl
    · refine z_iconst 6 11 rfl rfl ci_1 ?_
      refine z_iload2 7 12 rfl rfl ?_
      refine z_ishl 8 13 rfl rfl ?_
      refine z_istore3 9 14 rfl rfl rfl (fun v2 => ?_)
      refine z_iload1 10 15 rfl rfl ?_
      refine z_iload3 11 16 rfl rfl ?_
      refine z_iand 12 17 rfl rfl ?_
      refine z_if_eq 13 20 39 rfl rfl (by decide) ?_ ?_
      · exact z_wk (zle_e (zle_e (zle_e (zle_n zle_0)))) (t_X5_unbeaten_39 X d a0 h0 (f_X5_unbeaten_2 a0 n) ih x1 x2 σ)
      · refine z_iload1 14 21 rfl rfl ?_
        refine z_iload3 15 22 rfl rfl ?_
        refine z_iconst 16 23 rfl rfl ci_m1 ?_
        refine z_ixor 17 24 rfl rfl ?_
        refine z_iand 18 25 rfl rfl ?_
        refine z_aload0 19 26 rfl rfl ?_
        refine z_getR 20 29 0 rfl rfl zf_X5_9 rfl h0 ?_
        refine z_iload2 21 30 rfl rfl ?_
        refine z_iald 22 31 rfl rfl ?_
        refine z_iconst 23 32 rfl rfl ci_m1 ?_
        refine z_ixor 24 33 rfl rfl ?_
        refine z_iand 25 34 rfl rfl ?_
        refine z_if_ne 26 37 39 rfl rfl (by decide) ?_ ?_
        · refine z_iload2 27 38 rfl rfl ?_
          exact z_iret 28 rfl rfl
        · exact z_wk (zle_e (zle_e (zle_e (zle_n zle_0)))) (t_X5_unbeaten_39 X d a0 h0 (f_X5_unbeaten_2 a0 n) ih x1 x2 σ)
def f_X5_unbeaten (a0 : Nat) (x1 : Int32) (σ : zS) : Option (Int32 × zS) := zck (WC.2 a0 = (5, 0)) (zlt (0 : Int32) (fun v3 => f_X5_unbeaten_2 a0 FU x1 v3 σ))
theorem c_X5_unbeaten (X : zX) (d : Nat) (a0 : Nat) (x1 : Int32) (σ : zS) : ∀ (r : Int32) (σ' : zS), f_X5_unbeaten a0 x1 σ = some (r, σ') → zCN X WC d M_X5_unbeaten [.ref a0, .int x1] σ (zeI r, σ') := by
  refine z_entry [.ref a0, .int x1] (by decide +kernel) T_X5_unbeaten (Nat.le_of_ble_eq_true rfl) ?_
  show zK X WC (zrm d) M_X5_unbeaten (zZ X WC zeI) 0 [some (.ref a0), some (.int x1), none, none] [] σ (f_X5_unbeaten a0 x1 σ)
  unfold f_X5_unbeaten
  refine z_ck (fun h0 => ?_)
  refine z_iconst 0 1 rfl rfl ci_0 ?_
  refine z_istore2 1 2 rfl rfl rfl (fun v3 => ?_)
  exact t_X5_unbeaten_2 X d a0 h0  FU x1 v3 σ
def f_X5_outcome (a0 : Nat) (x1 : Int32) (x2 : Int32) (σ : zS) : Option (Int32 × zS) := zck (WC.2 a0 = (5, 0)) (zbd (f_X5_unbeaten a0 x1 σ) (fun r1 σ2 => zlt r1 (fun v3 => zbr (v3 = (-1 : Int32)) (some ((-2 : Int32), σ2)) (some (((x2 >>> (v3 &&& 31)) &&& (1 : Int32)), σ2)))))
theorem c_X5_outcome (X : zX) (d : Nat) (hd : 1 ≤ d) (a0 : Nat) (x1 : Int32) (x2 : Int32) (σ : zS) : ∀ (r : Int32) (σ' : zS), f_X5_outcome a0 x1 x2 σ = some (r, σ') → zCN X WC d M_X5_outcome [.ref a0, .int x1, .int x2] σ (zeI r, σ') := by
  obtain ⟨d, rfl⟩ : ∃ e, d = e + 1 := ⟨d - 1, by omega⟩
  refine z_entry [.ref a0, .int x1, .int x2] (by decide +kernel) T_X5_outcome (Nat.le_of_ble_eq_true rfl) ?_
  show zK X WC (zrm (d + 1)) M_X5_outcome (zZ X WC zeI) 0 [some (.ref a0), some (.int x1), some (.int x2), none] [] σ (f_X5_outcome a0 x1 x2 σ)
  unfold f_X5_outcome
  refine z_ck (fun h0 => ?_)
  refine z_aload0 0 1 rfl rfl ?_
  refine z_iload1 1 2 rfl rfl ?_
  refine z_cV1I 2 5 rfl rfl zl_X5_36 F_X5_unbeaten (zR_rm (by omega)) (c_X5_unbeaten X d a0 x1 σ) ⟨by decide, rfl, rfl⟩ h0 rfl (Nat.le_of_ble_eq_true rfl) (fun r1 σ2 => ?_)
  refine z_istore3 3 6 rfl rfl rfl (fun v3 => ?_)
  refine z_iload3 4 7 rfl rfl ?_
  refine z_iconst 5 8 rfl rfl ci_m1 ?_
  refine z_icmp_ne 6 11 16 rfl rfl (by decide) ?_ ?_
  · refine z_bipush 7 13 rfl rfl cb_m2 ?_
    refine z_goto 8 21 rfl (by decide) ?_
    exact z_iret 14 rfl rfl
  · refine z_iload2 9 17 rfl rfl ?_
    refine z_iload3 10 18 rfl rfl ?_
    refine z_ishr 11 19 rfl rfl ?_
    refine z_iconst 12 20 rfl rfl ci_1 ?_
    refine z_iand 13 21 rfl rfl ?_
    exact z_iret 14 rfl rfl
def f_X1_wonBehind_55 (G : Nat → Nat → Int32 → Int32 → Int32 → Int32 → zS → Option (Int32 × zS)) (a0 : Nat) (x6 : Int32) (s0 : Nat) (s1 : Nat) (s2 : Int32) (s3 : Int32) (s4 : Int32) (s5 : Int32) (σ : zS) : Option (Int32 × zS) := zck (WC.2 s0 = (1, 0)) (zbd (G s0 s1 s2 s3 s4 s5 σ) (fun r2 σ3 => zlt r2 (fun v4 => zck (zok 100 (WC.2 (σ3.2 a0 0)) x6) (zck (zok 100 (WC.2 (σ3.2 a0 0)) x6) (zlt (zpi σ3 (σ3.2 a0 0) x6.toNatClampNeg ((σ3.1 (σ3.2 a0 0) x6.toNatClampNeg) + (1 : Int32))) (fun σ5 => zck (zb v4) (some (v4, σ5))))))))
theorem t_X1_wonBehind_55 (X : zX) (d : Nat) (hd : 2 ≤ d) (G : Nat → Nat → Int32 → Int32 → Int32 → Int32 → zS → Option (Int32 × zS)) (hG : ∀ (b : Nat) (p0 : Nat) (p1 : Int32) (p2 : Int32) (p3 : Int32) (p4 : Int32) (σ : zS) (r : Int32) (σ' : zS), G b p0 p1 p2 p3 p4 σ = some (r, σ') → zCN X WC d M_X1_wonByOne [.ref b, .ref p0, .int p1, .int p2, .int p3, .int p4] σ (zeI r, σ')) (a0 : Nat) (h0 : WC.2 a0 = (1, 0)) (x6 : Int32) (s0 : Nat) (s1 : Nat) (s2 : Int32) (s3 : Int32) (s4 : Int32) (s5 : Int32) (σ : zS) : zK X WC (zrm (d + 1)) M_X1_wonBehind (zZ X WC zeI) 55 [some (.ref a0), none, none, none, none, none, some (.int x6), none, none] [.int s5, .int s4, .int s3, .int s2, .ref s1, .ref s0] σ (f_X1_wonBehind_55 G a0 x6 s0 s1 s2 s3 s4 s5 σ) := by
  unfold f_X1_wonBehind_55
  refine z_ck (fun h1 => ?_)
  refine z_cV5I 36 58 rfl rfl zl_X1_21 F_X1_wonByOne (zR_rm (by omega)) (hG s0 s1 s2 s3 s4 s5 σ) ⟨by decide, rfl, rfl⟩ h1 rfl (Nat.le_of_ble_eq_true rfl) (fun r2 σ3 => ?_)
  refine z_istore8 37 60 rfl rfl rfl (fun v4 => ?_)
  refine z_aload0 38 61 rfl rfl ?_
  refine z_getR 39 64 0 rfl rfl zf_X1_9 rfl h0 ?_
  refine z_iload6 40 66 rfl rfl ?_
  refine z_dup2 41 67 rfl rfl rfl rfl ?_
  refine z_iald 42 68 rfl rfl ?_
  refine z_iconst 43 69 rfl rfl ci_1 ?_
  refine z_iadd 44 70 rfl rfl ?_
  refine z_iast 45 71 rfl rfl (fun σ5 => ?_)
  refine z_iload8 46 73 rfl rfl ?_
  exact z_zret 47 rfl rfl
def f_X1_wonBehind_41 (G : Nat → Nat → Int32 → Int32 → Int32 → Int32 → zS → Option (Int32 × zS)) (a0 : Nat) (x4 : Int32) (x5 : Int32) (x6 : Int32) (s0 : Nat) (s1 : Nat) (s2 : Int32) (s3 : Int32) (σ : zS) : Option (Int32 × zS) := zbr (x5 = 0) (f_X1_wonBehind_55 G a0 x6 s0 s1 s2 s3 (x4 - (1 : Int32)) (1 : Int32) σ) (f_X1_wonBehind_55 G a0 x6 s0 s1 s2 s3 (x4 - (1 : Int32)) (0 : Int32) σ)
theorem t_X1_wonBehind_41 (X : zX) (d : Nat) (hd : 2 ≤ d) (G : Nat → Nat → Int32 → Int32 → Int32 → Int32 → zS → Option (Int32 × zS)) (hG : ∀ (b : Nat) (p0 : Nat) (p1 : Int32) (p2 : Int32) (p3 : Int32) (p4 : Int32) (σ : zS) (r : Int32) (σ' : zS), G b p0 p1 p2 p3 p4 σ = some (r, σ') → zCN X WC d M_X1_wonByOne [.ref b, .ref p0, .int p1, .int p2, .int p3, .int p4] σ (zeI r, σ')) (a0 : Nat) (h0 : WC.2 a0 = (1, 0)) (x4 : Int32) (x5 : Int32) (x6 : Int32) (s0 : Nat) (s1 : Nat) (s2 : Int32) (s3 : Int32) (σ : zS) : zK X WC (zrm (d + 1)) M_X1_wonBehind (zZ X WC zeI) 41 [some (.ref a0), none, none, none, some (.int x4), some (.int x5), some (.int x6), none, none] [.int s3, .int s2, .ref s1, .ref s0] σ (f_X1_wonBehind_41 G a0 x4 x5 x6 s0 s1 s2 s3 σ) := by
  unfold f_X1_wonBehind_41
  refine z_iload4 28 43 rfl rfl ?_
  refine z_iconst 29 44 rfl rfl ci_1 ?_
  refine z_isub 30 45 rfl rfl ?_
  refine z_iload5 31 47 rfl rfl ?_
  refine z_if_ne 32 50 54 rfl rfl (by decide) ?_ ?_
  · refine z_iconst 33 51 rfl rfl ci_1 ?_
    refine z_goto 34 55 rfl (by decide) ?_
    exact z_wk (zle_e (zle_e (zle_e (zle_e (zle_n (zle_n (zle_e (zle_e (zle_e zle_0))))))))) (t_X1_wonBehind_55 X d hd G hG a0 h0  x6 s0 s1 s2 s3 (x4 - (1 : Int32)) (1 : Int32) σ)
  · refine z_iconst 35 55 rfl rfl ci_0 ?_
    exact z_wk (zle_e (zle_e (zle_e (zle_e (zle_n (zle_n (zle_e (zle_e (zle_e zle_0))))))))) (t_X1_wonBehind_55 X d hd G hG a0 h0  x6 s0 s1 s2 s3 (x4 - (1 : Int32)) (0 : Int32) σ)
def f_X1_wonBehind (G : Nat → Nat → Int32 → Int32 → Int32 → Int32 → zS → Option (Int32 × zS)) (a0 : Nat) (x1 : Nat) (x2 : Int32) (x3 : Int32) (x4 : Int32) (x5 : Int32) (x6 : Int32) (σ : zS) : Option (Int32 × zS) := zck (WC.2 a0 = (1, 0)) (zlt ((1 : Int32) <<< (x6 &&& 31)) (fun v6 => zck (zok 100 (WC.2 (σ.2 a0 0)) x6) (zck (zok 100 (WC.2 (σ.2 a0 0)) x6) (zlt (zpi σ (σ.2 a0 0) x6.toNatClampNeg ((σ.1 (σ.2 a0 0) x6.toNatClampNeg) - (1 : Int32))) (fun σ7 => zbr (x5 = 0) (f_X1_wonBehind_41 G a0 x4 x5 x6 a0 x1 (x2 ||| v6) (x3 &&& (v6 ^^^ (-1 : Int32))) σ7) (f_X1_wonBehind_41 G a0 x4 x5 x6 a0 x1 (x2 ||| v6) (x3 ||| v6) σ7))))))
theorem c_X1_wonBehind (X : zX) (d : Nat) (hd : 2 ≤ d) (G : Nat → Nat → Int32 → Int32 → Int32 → Int32 → zS → Option (Int32 × zS)) (hG : ∀ (b : Nat) (p0 : Nat) (p1 : Int32) (p2 : Int32) (p3 : Int32) (p4 : Int32) (σ : zS) (r : Int32) (σ' : zS), G b p0 p1 p2 p3 p4 σ = some (r, σ') → zCN X WC d M_X1_wonByOne [.ref b, .ref p0, .int p1, .int p2, .int p3, .int p4] σ (zeI r, σ')) (a0 : Nat) (x1 : Nat) (x2 : Int32) (x3 : Int32) (x4 : Int32) (x5 : Int32) (x6 : Int32) (σ : zS) : ∀ (r : Int32) (σ' : zS), f_X1_wonBehind G a0 x1 x2 x3 x4 x5 x6 σ = some (r, σ') → zCN X WC (d + 1) M_X1_wonBehind [.ref a0, .ref x1, .int x2, .int x3, .int x4, .int x5, .int x6] σ (zeI r, σ') := by
  refine z_entry [.ref a0, .ref x1, .int x2, .int x3, .int x4, .int x5, .int x6] (by decide +kernel) T_X1_wonBehind (Nat.le_of_ble_eq_true rfl) ?_
  show zK X WC (zrm (d + 1)) M_X1_wonBehind (zZ X WC zeI) 0 [some (.ref a0), some (.ref x1), some (.int x2), some (.int x3), some (.int x4), some (.int x5), some (.int x6), none, none] [] σ (f_X1_wonBehind G a0 x1 x2 x3 x4 x5 x6 σ)
  unfold f_X1_wonBehind
  refine z_ck (fun h0 => ?_)
  refine z_iconst 0 1 rfl rfl ci_1 ?_
  refine z_iload6 1 3 rfl rfl ?_
  refine z_ishl 2 4 rfl rfl ?_
  refine z_istore7 3 6 rfl rfl rfl (fun v6 => ?_)
  refine z_aload0 4 7 rfl rfl ?_
  refine z_getR 5 10 0 rfl rfl zf_X1_9 rfl h0 ?_
  refine z_iload6 6 12 rfl rfl ?_
  refine z_dup2 7 13 rfl rfl rfl rfl ?_
  refine z_iald 8 14 rfl rfl ?_
  refine z_iconst 9 15 rfl rfl ci_1 ?_
  refine z_isub 10 16 rfl rfl ?_
  refine z_iast 11 17 rfl rfl (fun σ7 => ?_)
  refine z_aload0 12 18 rfl rfl ?_
  refine z_aload1 13 19 rfl rfl ?_
  refine z_iload2 14 20 rfl rfl ?_
  refine z_iload7 15 22 rfl rfl ?_
  refine z_ior 16 23 rfl rfl ?_
  refine z_iload5 17 25 rfl rfl ?_
  refine z_if_eq 18 28 35 rfl rfl (by decide) ?_ ?_
  · refine z_iload3 23 36 rfl rfl ?_
    refine z_iload7 24 38 rfl rfl ?_
    refine z_iconst 25 39 rfl rfl ci_m1 ?_
    refine z_ixor 26 40 rfl rfl ?_
    refine z_iand 27 41 rfl rfl ?_
    exact z_wk (zle_e (zle_n (zle_n (zle_n (zle_e (zle_e (zle_e (zle_n (zle_e zle_0))))))))) (t_X1_wonBehind_41 X d hd G hG a0 h0  x4 x5 x6 a0 x1 (x2 ||| v6) (x3 &&& (v6 ^^^ (-1 : Int32))) σ7)
  · refine z_iload3 19 29 rfl rfl ?_
    refine z_iload7 20 31 rfl rfl ?_
    refine z_ior 21 32 rfl rfl ?_
    refine z_goto 22 41 rfl (by decide) ?_
    exact z_wk (zle_e (zle_n (zle_n (zle_n (zle_e (zle_e (zle_e (zle_n (zle_e zle_0))))))))) (t_X1_wonBehind_41 X d hd G hG a0 h0  x4 x5 x6 a0 x1 (x2 ||| v6) (x3 ||| v6) σ7)
def f_X1_wonByOne_91 (G : Nat → Nat → Int32 → Int32 → Int32 → Int32 → zS → Option (Int32 × zS)) (a0 : Nat) (H53 : Nat → Int32 → Int32 → Int32 → Int32 → Int32 → zS → Option (Int32 × zS)) (x1 : Nat) (x2 : Int32) (x3 : Int32) (x4 : Int32) (x5 : Int32) (x6 : Int32) (σ : zS) : Option (Int32 × zS) := zlt (x6 + (1 : Int32)) (fun v1 => H53 x1 x2 x3 x4 x5 v1 σ)
theorem t_X1_wonByOne_91 (X : zX) (d : Nat) (hd : 4 ≤ d + 2) (G : Nat → Nat → Int32 → Int32 → Int32 → Int32 → zS → Option (Int32 × zS)) (hG : ∀ (b : Nat) (p0 : Nat) (p1 : Int32) (p2 : Int32) (p3 : Int32) (p4 : Int32) (σ : zS) (r : Int32) (σ' : zS), G b p0 p1 p2 p3 p4 σ = some (r, σ') → zCN X WC (d + 1) M_X1_wonByOne [.ref b, .ref p0, .int p1, .int p2, .int p3, .int p4] σ (zeI r, σ')) (hG2 : ∀ (b : Nat) (p0 : Nat) (p1 : Int32) (p2 : Int32) (p3 : Int32) (p4 : Int32) (σ : zS) (r : Int32) (σ' : zS), G b p0 p1 p2 p3 p4 σ = some (r, σ') → zCN X WC d M_X1_wonByOne [.ref b, .ref p0, .int p1, .int p2, .int p3, .int p4] σ (zeI r, σ')) (a0 : Nat) (h0 : WC.2 a0 = (1, 0)) (H53 : Nat → Int32 → Int32 → Int32 → Int32 → Int32 → zS → Option (Int32 × zS)) (hH53 : ∀ (x1 : Nat) (x2 : Int32) (x3 : Int32) (x4 : Int32) (x5 : Int32) (x6 : Int32) (σ : zS), zK X WC (zrm (d + 2)) M_X1_wonByOne (zZ X WC zeI) 53 [some (.ref a0), some (.ref x1), some (.int x2), some (.int x3), some (.int x4), some (.int x5), some (.int x6)] [] σ (H53 x1 x2 x3 x4 x5 x6 σ)) (x1 : Nat) (x2 : Int32) (x3 : Int32) (x4 : Int32) (x5 : Int32) (x6 : Int32) (σ : zS) : zK X WC (zrm (d + 2)) M_X1_wonByOne (zZ X WC zeI) 91 [some (.ref a0), some (.ref x1), some (.int x2), some (.int x3), some (.int x4), some (.int x5), some (.int x6)] [] σ (f_X1_wonByOne_91 G a0 H53 x1 x2 x3 x4 x5 x6 σ) := by
  unfold f_X1_wonByOne_91
  refine z_iinc6 51 94 rfl rfl ci_1 rfl (fun v1 => ?_)
  refine z_goto 52 53 rfl (by decide) ?_
  exact hH53 x1 x2 x3 x4 x5 v1 σ
def f_X1_wonByOne_53 (G : Nat → Nat → Int32 → Int32 → Int32 → Int32 → zS → Option (Int32 × zS)) (a0 : Nat) : Nat → Nat → Int32 → Int32 → Int32 → Int32 → Int32 → zS → Option (Int32 × zS)
  | 0, _, _, _, _, _, _, _ => none
  | n + 1, x1, x2, x3, x4, x5, x6, σ => zbr ((6 : Int32) ≤ x6) (zbr (x5 = 0) (zck (zb (1 : Int32)) (some ((1 : Int32), σ))) (zck (zb (0 : Int32)) (some ((0 : Int32), σ)))) (zck (zok 100 (WC.2 (σ.2 a0 0)) x6) (zbr ((σ.1 (σ.2 a0 0) x6.toNatClampNeg) ≤ 0) (f_X1_wonByOne_91 G a0 (f_X1_wonByOne_53 G a0 n) x1 x2 x3 x4 x5 x6 σ) (zbd (f_X1_wonBehind G a0 x1 x2 x3 x4 x5 x6 σ) (fun r2 σ3 => zbr (r2 = x5) (zck (zb x5) (some (x5, σ3))) (f_X1_wonByOne_91 G a0 (f_X1_wonByOne_53 G a0 n) x1 x2 x3 x4 x5 x6 σ3)))))
theorem t_X1_wonByOne_53 (X : zX) (d : Nat) (hd : 4 ≤ d + 2) (G : Nat → Nat → Int32 → Int32 → Int32 → Int32 → zS → Option (Int32 × zS)) (hG : ∀ (b : Nat) (p0 : Nat) (p1 : Int32) (p2 : Int32) (p3 : Int32) (p4 : Int32) (σ : zS) (r : Int32) (σ' : zS), G b p0 p1 p2 p3 p4 σ = some (r, σ') → zCN X WC (d + 1) M_X1_wonByOne [.ref b, .ref p0, .int p1, .int p2, .int p3, .int p4] σ (zeI r, σ')) (hG2 : ∀ (b : Nat) (p0 : Nat) (p1 : Int32) (p2 : Int32) (p3 : Int32) (p4 : Int32) (σ : zS) (r : Int32) (σ' : zS), G b p0 p1 p2 p3 p4 σ = some (r, σ') → zCN X WC d M_X1_wonByOne [.ref b, .ref p0, .int p1, .int p2, .int p3, .int p4] σ (zeI r, σ')) (a0 : Nat) (h0 : WC.2 a0 = (1, 0)) : ∀ (n : Nat) (x1 : Nat) (x2 : Int32) (x3 : Int32) (x4 : Int32) (x5 : Int32) (x6 : Int32) (σ : zS), zK X WC (zrm (d + 2)) M_X1_wonByOne (zZ X WC zeI) 53 [some (.ref a0), some (.ref x1), some (.int x2), some (.int x3), some (.int x4), some (.int x5), some (.int x6)] [] σ (f_X1_wonByOne_53 G a0 n x1 x2 x3 x4 x5 x6 σ) := by
  intro n
  induction n with
  | zero => intro x1 x2 x3 x4 x5 x6 σ; exact z_none
  | succ n ih =>
    intro x1 x2 x3 x4 x5 x6 σ
    rw [f_X1_wonByOne_53]
    refine z_iload6 31 55 rfl rfl ?_
    refine z_bipush 32 57 rfl rfl cb_6 ?_
    refine z_icmp_ge 33 60 97 rfl rfl (by decide) ?_ ?_
    · refine z_iload5 53 99 rfl rfl ?_
      refine z_if_ne 54 102 106 rfl rfl (by decide) ?_ ?_
      · refine z_iconst 55 103 rfl rfl ci_1 ?_
        refine z_goto 56 107 rfl (by decide) ?_
        exact z_zret 58 rfl rfl
      · refine z_iconst 57 107 rfl rfl ci_0 ?_
        exact z_zret 58 rfl rfl
    · refine z_aload0 34 61 rfl rfl ?_
      refine z_getR 35 64 0 rfl rfl zf_X1_9 rfl h0 ?_
      refine z_iload6 36 66 rfl rfl ?_
      refine z_iald 37 67 rfl rfl ?_
      refine z_if_le 38 70 91 rfl rfl (by decide) ?_ ?_
      · exact t_X1_wonByOne_91 X d hd G hG hG2 a0 h0 (f_X1_wonByOne_53 G a0 n) ih x1 x2 x3 x4 x5 x6 σ
      · refine z_aload0 39 71 rfl rfl ?_
        refine z_aload1 40 72 rfl rfl ?_
        refine z_iload2 41 73 rfl rfl ?_
        refine z_iload3 42 74 rfl rfl ?_
        refine z_iload4 43 76 rfl rfl ?_
        refine z_iload5 44 78 rfl rfl ?_
        refine z_iload6 45 80 rfl rfl ?_
        refine z_cV6I 46 83 rfl rfl zl_X1_25 F_X1_wonBehind (zR_rm (by omega)) (c_X1_wonBehind X d (by omega) G hG2 a0 x1 x2 x3 x4 x5 x6 σ) ⟨by decide, rfl, rfl⟩ h0 rfl (Nat.le_of_ble_eq_true rfl) (fun r2 σ3 => ?_)
        refine z_iload5 47 85 rfl rfl ?_
        refine z_icmp_ne 48 88 91 rfl rfl (by decide) ?_ ?_
        · refine z_iload5 49 90 rfl rfl ?_
          exact z_zret 50 rfl rfl
        · exact t_X1_wonByOne_91 X d hd G hG hG2 a0 h0 (f_X1_wonByOne_53 G a0 n) ih x1 x2 x3 x4 x5 x6 σ3
def f_X1_wonByOne_39 (G : Nat → Nat → Int32 → Int32 → Int32 → Int32 → zS → Option (Int32 × zS)) (a0 : Nat) (x1 : Nat) (x2 : Int32) (x3 : Int32) (x4 : Int32) (x5 : Int32) (s0 : Nat) (s1 : Nat) (s2 : Int32) (s3 : Int32) (s4 : Int32) (s5 : Int32) (σ : zS) : Option (Int32 × zS) := zck (WC.2 s0 = (1, 0)) (zbd (G s0 s1 s2 s3 s4 s5 σ) (fun r5 σ6 => zbr (r5 = x5) (zck (zb x5) (some (x5, σ6))) (zlt (0 : Int32) (fun v7 => f_X1_wonByOne_53 G a0 FU x1 x2 x3 x4 x5 v7 σ6))))
theorem t_X1_wonByOne_39 (X : zX) (d : Nat) (hd : 4 ≤ d + 2) (G : Nat → Nat → Int32 → Int32 → Int32 → Int32 → zS → Option (Int32 × zS)) (hG : ∀ (b : Nat) (p0 : Nat) (p1 : Int32) (p2 : Int32) (p3 : Int32) (p4 : Int32) (σ : zS) (r : Int32) (σ' : zS), G b p0 p1 p2 p3 p4 σ = some (r, σ') → zCN X WC (d + 1) M_X1_wonByOne [.ref b, .ref p0, .int p1, .int p2, .int p3, .int p4] σ (zeI r, σ')) (hG2 : ∀ (b : Nat) (p0 : Nat) (p1 : Int32) (p2 : Int32) (p3 : Int32) (p4 : Int32) (σ : zS) (r : Int32) (σ' : zS), G b p0 p1 p2 p3 p4 σ = some (r, σ') → zCN X WC d M_X1_wonByOne [.ref b, .ref p0, .int p1, .int p2, .int p3, .int p4] σ (zeI r, σ')) (a0 : Nat) (h0 : WC.2 a0 = (1, 0)) (x1 : Nat) (x2 : Int32) (x3 : Int32) (x4 : Int32) (x5 : Int32) (s0 : Nat) (s1 : Nat) (s2 : Int32) (s3 : Int32) (s4 : Int32) (s5 : Int32) (σ : zS) : zK X WC (zrm (d + 2)) M_X1_wonByOne (zZ X WC zeI) 39 [some (.ref a0), some (.ref x1), some (.int x2), some (.int x3), some (.int x4), some (.int x5), none] [.int s5, .int s4, .int s3, .int s2, .ref s1, .ref s0] σ (f_X1_wonByOne_39 G a0 x1 x2 x3 x4 x5 s0 s1 s2 s3 s4 s5 σ) := by
  unfold f_X1_wonByOne_39
  refine z_ck (fun h4 => ?_)
  refine z_cV5I 24 42 rfl rfl zl_X1_21 F_X1_wonByOne (zR_rm (by omega)) (hG s0 s1 s2 s3 s4 s5 σ) ⟨by decide, rfl, rfl⟩ h4 rfl (Nat.le_of_ble_eq_true rfl) (fun r5 σ6 => ?_)
  refine z_iload5 25 44 rfl rfl ?_
  refine z_icmp_ne 26 47 50 rfl rfl (by decide) ?_ ?_
  · refine z_iload5 27 49 rfl rfl ?_
    exact z_zret 28 rfl rfl
  · refine z_iconst 29 51 rfl rfl ci_0 ?_
    refine z_istore6 30 53 rfl rfl rfl (fun v7 => ?_)
    exact t_X1_wonByOne_53 X d hd G hG hG2 a0 h0  FU x1 x2 x3 x4 x5 v7 σ6
def f_X1_wonByOne_b (G : Nat → Nat → Int32 → Int32 → Int32 → Int32 → zS → Option (Int32 × zS)) (a0 : Nat) (x1 : Nat) (x2 : Int32) (x3 : Int32) (x4 : Int32) (x5 : Int32) (σ : zS) : Option (Int32 × zS) := zck (WC.2 a0 = (1, 0)) (zbr (0 < x4) (zbr (x5 = 0) (f_X1_wonByOne_39 G a0 x1 x2 x3 x4 x5 a0 x1 x2 x3 (x4 - (1 : Int32)) (1 : Int32) σ) (f_X1_wonByOne_39 G a0 x1 x2 x3 x4 x5 a0 x1 x2 x3 (x4 - (1 : Int32)) (0 : Int32) σ)) (zck (WC.2 x1 = (5, 0)) (zbd (f_X5_outcome x1 x2 x3 σ) (fun r9 σ10 => zbr (r9 = (1 : Int32)) (zck (zb (1 : Int32)) (some ((1 : Int32), σ10))) (zck (zb (0 : Int32)) (some ((0 : Int32), σ10)))))))
theorem c_X1_wonByOne_b (X : zX) (d : Nat) (hd : 4 ≤ d + 2) (G : Nat → Nat → Int32 → Int32 → Int32 → Int32 → zS → Option (Int32 × zS)) (hG : ∀ (b : Nat) (p0 : Nat) (p1 : Int32) (p2 : Int32) (p3 : Int32) (p4 : Int32) (σ : zS) (r : Int32) (σ' : zS), G b p0 p1 p2 p3 p4 σ = some (r, σ') → zCN X WC (d + 1) M_X1_wonByOne [.ref b, .ref p0, .int p1, .int p2, .int p3, .int p4] σ (zeI r, σ')) (hG2 : ∀ (b : Nat) (p0 : Nat) (p1 : Int32) (p2 : Int32) (p3 : Int32) (p4 : Int32) (σ : zS) (r : Int32) (σ' : zS), G b p0 p1 p2 p3 p4 σ = some (r, σ') → zCN X WC d M_X1_wonByOne [.ref b, .ref p0, .int p1, .int p2, .int p3, .int p4] σ (zeI r, σ')) (a0 : Nat) (x1 : Nat) (x2 : Int32) (x3 : Int32) (x4 : Int32) (x5 : Int32) (σ : zS) : ∀ (r : Int32) (σ' : zS), f_X1_wonByOne_b G a0 x1 x2 x3 x4 x5 σ = some (r, σ') → zCN X WC (d + 2) M_X1_wonByOne [.ref a0, .ref x1, .int x2, .int x3, .int x4, .int x5] σ (zeI r, σ') := by
  refine z_entry [.ref a0, .ref x1, .int x2, .int x3, .int x4, .int x5] (by decide +kernel) T_X1_wonByOne (Nat.le_of_ble_eq_true rfl) ?_
  show zK X WC (zrm (d + 2)) M_X1_wonByOne (zZ X WC zeI) 0 [some (.ref a0), some (.ref x1), some (.int x2), some (.int x3), some (.int x4), some (.int x5), none] [] σ (f_X1_wonByOne_b G a0 x1 x2 x3 x4 x5 σ)
  unfold f_X1_wonByOne_b
  refine z_ck (fun h0 => ?_)
  refine z_iload4 0 2 rfl rfl ?_
  refine z_if_gt 1 5 21 rfl rfl (by decide) ?_ ?_
  · refine z_aload0 12 22 rfl rfl ?_
    refine z_aload1 13 23 rfl rfl ?_
    refine z_iload2 14 24 rfl rfl ?_
    refine z_iload3 15 25 rfl rfl ?_
    refine z_iload4 16 27 rfl rfl ?_
    refine z_iconst 17 28 rfl rfl ci_1 ?_
    refine z_isub 18 29 rfl rfl ?_
    refine z_iload5 19 31 rfl rfl ?_
    refine z_if_ne 20 34 38 rfl rfl (by decide) ?_ ?_
    · refine z_iconst 21 35 rfl rfl ci_1 ?_
      refine z_goto 22 39 rfl (by decide) ?_
      exact t_X1_wonByOne_39 X d hd G hG hG2 a0 h0  x1 x2 x3 x4 x5 a0 x1 x2 x3 (x4 - (1 : Int32)) (1 : Int32) σ
    · refine z_iconst 23 39 rfl rfl ci_0 ?_
      exact t_X1_wonByOne_39 X d hd G hG hG2 a0 h0  x1 x2 x3 x4 x5 a0 x1 x2 x3 (x4 - (1 : Int32)) (0 : Int32) σ
  · refine z_aload1 2 6 rfl rfl ?_
    refine z_iload2 3 7 rfl rfl ?_
    refine z_iload3 4 8 rfl rfl ?_
    refine z_ck (fun h8 => ?_)
    refine z_cV2I 5 11 rfl rfl zl_X1_15 F_X5_outcome (zR_rm (by omega)) (c_X5_outcome X (d + 1) (by omega) x1 x2 x3 σ) ⟨by decide, rfl, rfl⟩ h8 rfl (Nat.le_of_ble_eq_true rfl) (fun r9 σ10 => ?_)
    refine z_iconst 6 12 rfl rfl ci_1 ?_
    refine z_icmp_ne 7 15 19 rfl rfl (by decide) ?_ ?_
    · refine z_iconst 8 16 rfl rfl ci_1 ?_
      refine z_goto 9 20 rfl (by decide) ?_
      exact z_zret 11 rfl rfl
    · refine z_iconst 10 20 rfl rfl ci_0 ?_
      exact z_zret 11 rfl rfl
def f_X1_wonByOne : Nat → Nat → Nat → Int32 → Int32 → Int32 → Int32 → zS → Option (Int32 × zS)
  | 0, _, _, _, _, _, _, _ => none
  | n + 1, a0, x1, x2, x3, x4, x5, σ => f_X1_wonByOne_b (f_X1_wonByOne n) a0 x1 x2 x3 x4 x5 σ
theorem c_X1_wonByOne (X : zX) : ∀ (n d : Nat) (hd : 2 + 2 * n ≤ d) (a0 : Nat) (x1 : Nat) (x2 : Int32) (x3 : Int32) (x4 : Int32) (x5 : Int32) (σ : zS) (r : Int32) (σ' : zS), f_X1_wonByOne n a0 x1 x2 x3 x4 x5 σ = some (r, σ') → zCN X WC d M_X1_wonByOne [.ref a0, .ref x1, .int x2, .int x3, .int x4, .int x5] σ (zeI r, σ') := by
  intro n
  induction n with
  | zero => intro d hd a0 x1 x2 x3 x4 x5 σ r σ' h; cases h
  | succ n ih =>
    intro d hd a0 x1 x2 x3 x4 x5 σ r σ' h
    obtain ⟨d, rfl⟩ : ∃ e, d = e + 2 := ⟨d - 2, by omega⟩
    exact c_X1_wonByOne_b X d (by omega) (f_X1_wonByOne n) (fun a0_ x1_ x2_ x3_ x4_ x5_ σ r σ' h => ih (d + 1) (by omega) a0_ x1_ x2_ x3_ x4_ x5_ σ r σ' h) (fun a0_ x1_ x2_ x3_ x4_ x5_ σ r σ' h => ih d (by omega) a0_ x1_ x2_ x3_ x4_ x5_ σ r σ' h) a0 x1 x2 x3 x4 x5 σ r σ' h
theorem c_X1_wonBehind' (X : zX) (d : Nat) (hd : 21 ≤ d) (a0 : Nat) (x1 : Nat) (x2 : Int32) (x3 : Int32) (x4 : Int32) (x5 : Int32) (x6 : Int32) (σ : zS) : ∀ (r : Int32) (σ' : zS), f_X1_wonBehind (f_X1_wonByOne FUR) a0 x1 x2 x3 x4 x5 x6 σ = some (r, σ') → zCN X WC d M_X1_wonBehind [.ref a0, .ref x1, .int x2, .int x3, .int x4, .int x5, .int x6] σ (zeI r, σ') := by
  obtain ⟨d, rfl⟩ : ∃ e, d = e + 1 := ⟨d - 1, by omega⟩
  exact c_X1_wonBehind X d (by omega) (f_X1_wonByOne FUR) (fun b p0 p1 p2 p3 p4 σ r σ' h => c_X1_wonByOne X FUR d (by unfold FUR; omega) b p0 p1 p2 p3 p4 σ r σ' h) a0 x1 x2 x3 x4 x5 x6 σ
def f_X1_firstMove_56 (a0 : Nat) (H21 : Nat → Int32 → Int32 → Int32 → Int32 → zS → Option (Int32 × zS)) (x1 : Nat) (x2 : Int32) (x3 : Int32) (x4 : Int32) (x5 : Int32) (σ : zS) : Option (Int32 × zS) := zlt (x5 + (1 : Int32)) (fun v1 => H21 x1 x2 x3 x4 v1 σ)
theorem t_X1_firstMove_56 (X : zX) (d : Nat) (hd : 22 ≤ d + 1) (a0 : Nat) (h0 : WC.2 a0 = (1, 0)) (H21 : Nat → Int32 → Int32 → Int32 → Int32 → zS → Option (Int32 × zS)) (hH21 : ∀ (x1 : Nat) (x2 : Int32) (x3 : Int32) (x4 : Int32) (x5 : Int32) (σ : zS), zK X WC (zrm (d + 1)) M_X1_firstMove (zZ X WC zeI) 21 [some (.ref a0), some (.ref x1), some (.int x2), some (.int x3), some (.int x4), some (.int x5)] [] σ (H21 x1 x2 x3 x4 x5 σ)) (x1 : Nat) (x2 : Int32) (x3 : Int32) (x4 : Int32) (x5 : Int32) (σ : zS) : zK X WC (zrm (d + 1)) M_X1_firstMove (zZ X WC zeI) 56 [some (.ref a0), some (.ref x1), some (.int x2), some (.int x3), some (.int x4), some (.int x5)] [] σ (f_X1_firstMove_56 a0 H21 x1 x2 x3 x4 x5 σ) := by
  unfold f_X1_firstMove_56
  refine z_iinc5 33 59 rfl rfl ci_1 rfl (fun v1 => ?_)
  refine z_goto 34 21 rfl (by decide) ?_
  exact hH21 x1 x2 x3 x4 v1 σ
def f_X1_firstMove_21 (a0 : Nat) : Nat → Nat → Int32 → Int32 → Int32 → Int32 → zS → Option (Int32 × zS)
  | 0, _, _, _, _, _, _ => none
  | n + 1, x1, x2, x3, x4, x5, σ => zbr ((6 : Int32) ≤ x5) (some ((-2 : Int32), σ)) (zck (zok 100 (WC.2 (σ.2 a0 0)) x5) (zbr ((σ.1 (σ.2 a0 0) x5.toNatClampNeg) ≤ 0) (f_X1_firstMove_56 a0 (f_X1_firstMove_21 a0 n) x1 x2 x3 x4 x5 σ) (zbd (f_X1_wonBehind (f_X1_wonByOne FUR) a0 x1 x2 x3 x4 (1 : Int32) x5 σ) (fun r2 σ3 => zbr (r2 = 0) (f_X1_firstMove_56 a0 (f_X1_firstMove_21 a0 n) x1 x2 x3 x4 x5 σ3) (some (x5, σ3))))))
theorem t_X1_firstMove_21 (X : zX) (d : Nat) (hd : 22 ≤ d + 1) (a0 : Nat) (h0 : WC.2 a0 = (1, 0)) : ∀ (n : Nat) (x1 : Nat) (x2 : Int32) (x3 : Int32) (x4 : Int32) (x5 : Int32) (σ : zS), zK X WC (zrm (d + 1)) M_X1_firstMove (zZ X WC zeI) 21 [some (.ref a0), some (.ref x1), some (.int x2), some (.int x3), some (.int x4), some (.int x5)] [] σ (f_X1_firstMove_21 a0 n x1 x2 x3 x4 x5 σ) := by
  intro n
  induction n with
  | zero => intro x1 x2 x3 x4 x5 σ; exact z_none
  | succ n ih =>
    intro x1 x2 x3 x4 x5 σ
    rw [f_X1_firstMove_21]
    refine z_iload5 14 23 rfl rfl ?_
    refine z_bipush 15 25 rfl rfl cb_6 ?_
    refine z_icmp_ge 16 28 62 rfl rfl (by decide) ?_ ?_
    · refine z_bipush 35 64 rfl rfl cb_m2 ?_
      exact z_iret 36 rfl rfl
    · refine z_aload0 17 29 rfl rfl ?_
      refine z_getR 18 32 0 rfl rfl zf_X1_9 rfl h0 ?_
      refine z_iload5 19 34 rfl rfl ?_
      refine z_iald 20 35 rfl rfl ?_
      refine z_if_le 21 38 56 rfl rfl (by decide) ?_ ?_
      · exact t_X1_firstMove_56 X d hd a0 h0 (f_X1_firstMove_21 a0 n) ih x1 x2 x3 x4 x5 σ
      · refine z_aload0 22 39 rfl rfl ?_
        refine z_aload1 23 40 rfl rfl ?_
        refine z_iload2 24 41 rfl rfl ?_
        refine z_iload3 25 42 rfl rfl ?_
        refine z_iload4 26 44 rfl rfl ?_
        refine z_iconst 27 45 rfl rfl ci_1 ?_
        refine z_iload5 28 47 rfl rfl ?_
        refine z_cV6I 29 50 rfl rfl zl_X1_25 F_X1_wonBehind (zR_rm (by omega)) (c_X1_wonBehind' X d (by omega) a0 x1 x2 x3 x4 (1 : Int32) x5 σ) ⟨by decide, rfl, rfl⟩ h0 rfl (Nat.le_of_ble_eq_true rfl) (fun r2 σ3 => ?_)
        refine z_if_eq 30 53 56 rfl rfl (by decide) ?_ ?_
        · exact t_X1_firstMove_56 X d hd a0 h0 (f_X1_firstMove_21 a0 n) ih x1 x2 x3 x4 x5 σ3
        · refine z_iload5 31 55 rfl rfl ?_
          exact z_iret 32 rfl rfl
def f_X1_firstMove (a0 : Nat) (x1 : Nat) (x2 : Int32) (x3 : Int32) (x4 : Int32) (σ : zS) : Option (Int32 × zS) := zck (WC.2 a0 = (1, 0)) (zbd (f_X1_wonByOne FUR a0 x1 x2 x3 (x4 - (1 : Int32)) (0 : Int32) σ) (fun r4 σ5 => zbr (r4 = 0) (zlt (0 : Int32) (fun v6 => f_X1_firstMove_21 a0 FU x1 x2 x3 x4 v6 σ5)) (some ((-2 : Int32), σ5))))
theorem c_X1_firstMove (X : zX) (d : Nat) (hd : 22 ≤ d) (a0 : Nat) (x1 : Nat) (x2 : Int32) (x3 : Int32) (x4 : Int32) (σ : zS) : ∀ (r : Int32) (σ' : zS), f_X1_firstMove a0 x1 x2 x3 x4 σ = some (r, σ') → zCN X WC d M_X1_firstMove [.ref a0, .ref x1, .int x2, .int x3, .int x4] σ (zeI r, σ') := by
  obtain ⟨d, rfl⟩ : ∃ e, d = e + 1 := ⟨d - 1, by omega⟩
  refine z_entry [.ref a0, .ref x1, .int x2, .int x3, .int x4] (by decide +kernel) T_X1_firstMove (Nat.le_of_ble_eq_true rfl) ?_
  show zK X WC (zrm (d + 1)) M_X1_firstMove (zZ X WC zeI) 0 [some (.ref a0), some (.ref x1), some (.int x2), some (.int x3), some (.int x4), none] [] σ (f_X1_firstMove a0 x1 x2 x3 x4 σ)
  unfold f_X1_firstMove
  refine z_ck (fun h0 => ?_)
  refine z_aload0 0 1 rfl rfl ?_
  refine z_aload1 1 2 rfl rfl ?_
  refine z_iload2 2 3 rfl rfl ?_
  refine z_iload3 3 4 rfl rfl ?_
  refine z_iload4 4 6 rfl rfl ?_
  refine z_iconst 5 7 rfl rfl ci_1 ?_
  refine z_isub 6 8 rfl rfl ?_
  refine z_iconst 7 9 rfl rfl ci_0 ?_
  refine z_cV5I 8 12 rfl rfl zl_X1_21 F_X1_wonByOne (zR_rm (by omega)) (c_X1_wonByOne X FUR d (by unfold FUR; omega) a0 x1 x2 x3 (x4 - (1 : Int32)) (0 : Int32) σ) ⟨by decide, rfl, rfl⟩ h0 rfl (Nat.le_of_ble_eq_true rfl) (fun r4 σ5 => ?_)
  refine z_if_eq 9 15 18 rfl rfl (by decide) ?_ ?_
  · refine z_iconst 12 19 rfl rfl ci_0 ?_
    refine z_istore5 13 21 rfl rfl rfl (fun v6 => ?_)
    exact t_X1_firstMove_21 X d hd a0 h0  FU x1 x2 x3 x4 v6 σ5
  · refine z_bipush 10 17 rfl rfl cb_m2 ?_
    exact z_iret 11 rfl rfl
def f_X6_read_45 (a0 : Nat) (H4 : Int32 → Int32 → zS → Option (Int32 × zS)) (x1 : Int32) (x2 : Int32) (σ : zS) : Option (Int32 × zS) := zlt (x2 + (1 : Int32)) (fun v1 => H4 x1 v1 σ)
theorem t_X6_read_45 (X : zX) (d : Nat) (a0 : Nat) (h0 : WC.2 a0 = (6, 0)) (H4 : Int32 → Int32 → zS → Option (Int32 × zS)) (hH4 : ∀ (x1 : Int32) (x2 : Int32) (σ : zS), zK X WC (zrm d) M_X6_read (zZ X WC zeI) 4 [some (.ref a0), some (.int x1), some (.int x2)] [] σ (H4 x1 x2 σ)) (x1 : Int32) (x2 : Int32) (σ : zS) : zK X WC (zrm d) M_X6_read (zZ X WC zeI) 45 [some (.ref a0), some (.int x1), some (.int x2)] [] σ (f_X6_read_45 a0 H4 x1 x2 σ) := by
  unfold f_X6_read_45
  refine z_iinc2 31 48 rfl rfl ci_1 rfl (fun v1 => ?_)
  refine z_goto 32 4 rfl (by decide) ?_
  exact hH4 x1 v1 σ
def f_X6_read_4 (a0 : Nat) : Nat → Int32 → Int32 → zS → Option (Int32 × zS)
  | 0, _, _, _ => none
  | n + 1, x1, x2, σ => zbr ((σ.1 a0 5) ≤ x2) (some (x1, σ)) (zbr ((((σ.1 a0 6) >>> (x2 &&& 31)) &&& (1 : Int32)) = 0) (zck (zok 100 (WC.2 (σ.2 a0 1)) x2) (zbr ((((σ.1 a0 7) >>> ((σ.1 (σ.2 a0 1) x2.toNatClampNeg) &&& 31)) &&& (1 : Int32)) = 0) (zlt (x1 ||| ((1 : Int32) <<< (x2 &&& 31))) (fun v2 => f_X6_read_45 a0 (f_X6_read_4 a0 n) v2 x2 σ)) (f_X6_read_45 a0 (f_X6_read_4 a0 n) x1 x2 σ))) (f_X6_read_45 a0 (f_X6_read_4 a0 n) x1 x2 σ))
theorem t_X6_read_4 (X : zX) (d : Nat) (a0 : Nat) (h0 : WC.2 a0 = (6, 0)) : ∀ (n : Nat) (x1 : Int32) (x2 : Int32) (σ : zS), zK X WC (zrm d) M_X6_read (zZ X WC zeI) 4 [some (.ref a0), some (.int x1), some (.int x2)] [] σ (f_X6_read_4 a0 n x1 x2 σ) := by
  intro n
  induction n with
  | zero => intro x1 x2 σ; exact z_none
  | succ n ih =>
    intro x1 x2 σ
    rw [f_X6_read_4]
    refine z_iload2 4 5 rfl rfl ?_
    refine z_aload0 5 6 rfl rfl ?_
    refine z_getI 6 9 5 rfl rfl zf_X6_27 rfl h0 ?_
    refine z_icmp_ge 7 12 51 rfl rfl (by decide) ?_ ?_
    · refine z_iload1 33 52 rfl rfl ?_
      exact z_iret 34 rfl rfl
    · refine z_aload0 8 13 rfl rfl ?_
      refine z_getI 9 16 6 rfl rfl zf_X6_31 rfl h0 ?_
      refine z_iload2 10 17 rfl rfl ?_
      refine z_ishr 11 18 rfl rfl ?_
      refine z_iconst 12 19 rfl rfl ci_1 ?_
      refine z_iand 13 20 rfl rfl ?_
      refine z_if_ne 14 23 45 rfl rfl (by decide) ?_ ?_
      · refine z_aload0 15 24 rfl rfl ?_
        refine z_getI 16 27 7 rfl rfl zf_X6_34 rfl h0 ?_
        refine z_aload0 17 28 rfl rfl ?_
        refine z_getR 18 31 1 rfl rfl zf_X6_15 rfl h0 ?_
        refine z_iload2 19 32 rfl rfl ?_
        refine z_iald 20 33 rfl rfl ?_
        refine z_ishr 21 34 rfl rfl ?_
        refine z_iconst 22 35 rfl rfl ci_1 ?_
        refine z_iand 23 36 rfl rfl ?_
        refine z_if_ne 24 39 45 rfl rfl (by decide) ?_ ?_
        · refine z_iload1 25 40 rfl rfl ?_
          refine z_iconst 26 41 rfl rfl ci_1 ?_
          refine z_iload2 27 42 rfl rfl ?_
          refine z_ishl 28 43 rfl rfl ?_
          refine z_ior 29 44 rfl rfl ?_
          refine z_istore1 30 45 rfl rfl rfl (fun v2 => ?_)
          exact t_X6_read_45 X d a0 h0 (f_X6_read_4 a0 n) ih v2 x2 σ
        · exact t_X6_read_45 X d a0 h0 (f_X6_read_4 a0 n) ih x1 x2 σ
      · exact t_X6_read_45 X d a0 h0 (f_X6_read_4 a0 n) ih x1 x2 σ
def f_X6_read (a0 : Nat) (σ : zS) : Option (Int32 × zS) := zck (WC.2 a0 = (6, 0)) (zlt (0 : Int32) (fun v3 => zlt (0 : Int32) (fun v4 => f_X6_read_4 a0 FU v3 v4 σ)))
theorem c_X6_read (X : zX) (d : Nat) (a0 : Nat) (σ : zS) : ∀ (r : Int32) (σ' : zS), f_X6_read a0 σ = some (r, σ') → zCN X WC d M_X6_read [.ref a0] σ (zeI r, σ') := by
  refine z_entry [.ref a0] (by decide +kernel) T_X6_read (Nat.le_of_ble_eq_true rfl) ?_
  show zK X WC (zrm d) M_X6_read (zZ X WC zeI) 0 [some (.ref a0), none, none] [] σ (f_X6_read a0 σ)
  unfold f_X6_read
  refine z_ck (fun h0 => ?_)
  refine z_iconst 0 1 rfl rfl ci_0 ?_
  refine z_istore1 1 2 rfl rfl rfl (fun v3 => ?_)
  refine z_iconst 2 3 rfl rfl ci_0 ?_
  refine z_istore2 3 4 rfl rfl rfl (fun v4 => ?_)
  exact t_X6_read_4 X d a0 h0  FU v3 v4 σ
def f_X6_placesOf_47 (a0 : Nat) (H5 : Int32 → Int32 → Int32 → Int32 → zS → Option (Int32 × zS)) (x1 : Int32) (x2 : Int32) (x3 : Int32) (x4 : Int32) (σ : zS) : Option (Int32 × zS) := zlt (x4 + (1 : Int32)) (fun v1 => H5 x1 x2 x3 v1 σ)
theorem t_X6_placesOf_47 (X : zX) (d : Nat) (a0 : Nat) (h0 : WC.2 a0 = (6, 0)) (H5 : Int32 → Int32 → Int32 → Int32 → zS → Option (Int32 × zS)) (hH5 : ∀ (x1 : Int32) (x2 : Int32) (x3 : Int32) (x4 : Int32) (σ : zS), zK X WC (zrm d) M_X6_placesOf (zZ X WC zeI) 5 [some (.ref a0), some (.int x1), some (.int x2), some (.int x3), some (.int x4)] [] σ (H5 x1 x2 x3 x4 σ)) (x1 : Int32) (x2 : Int32) (x3 : Int32) (x4 : Int32) (σ : zS) : zK X WC (zrm d) M_X6_placesOf (zZ X WC zeI) 47 [some (.ref a0), some (.int x1), some (.int x2), some (.int x3), some (.int x4)] [] σ (f_X6_placesOf_47 a0 H5 x1 x2 x3 x4 σ) := by
  unfold f_X6_placesOf_47
  refine z_iinc4 30 50 rfl rfl ci_1 rfl (fun v1 => ?_)
  refine z_goto 31 5 rfl (by decide) ?_
  exact hH5 x1 x2 x3 v1 σ
def f_X6_placesOf_5 (a0 : Nat) : Nat → Int32 → Int32 → Int32 → Int32 → zS → Option (Int32 × zS)
  | 0, _, _, _, _, _ => none
  | n + 1, x1, x2, x3, x4, σ => zbr ((σ.1 a0 5) ≤ x4) (some (x3, σ)) (zbr (((x2 >>> (x4 &&& 31)) &&& (1 : Int32)) = (1 : Int32)) (zck (zok 100 (WC.2 (σ.2 a0 2)) x4) (zbr ((σ.1 (σ.2 a0 2) x4.toNatClampNeg) = x1) (zck (zok 100 (WC.2 (σ.2 a0 1)) x4) (zlt (x3 ||| ((1 : Int32) <<< ((σ.1 (σ.2 a0 1) x4.toNatClampNeg) &&& 31))) (fun v2 => f_X6_placesOf_47 a0 (f_X6_placesOf_5 a0 n) x1 x2 v2 x4 σ))) (f_X6_placesOf_47 a0 (f_X6_placesOf_5 a0 n) x1 x2 x3 x4 σ))) (f_X6_placesOf_47 a0 (f_X6_placesOf_5 a0 n) x1 x2 x3 x4 σ))
theorem t_X6_placesOf_5 (X : zX) (d : Nat) (a0 : Nat) (h0 : WC.2 a0 = (6, 0)) : ∀ (n : Nat) (x1 : Int32) (x2 : Int32) (x3 : Int32) (x4 : Int32) (σ : zS), zK X WC (zrm d) M_X6_placesOf (zZ X WC zeI) 5 [some (.ref a0), some (.int x1), some (.int x2), some (.int x3), some (.int x4)] [] σ (f_X6_placesOf_5 a0 n x1 x2 x3 x4 σ) := by
  intro n
  induction n with
  | zero => intro x1 x2 x3 x4 σ; exact z_none
  | succ n ih =>
    intro x1 x2 x3 x4 σ
    rw [f_X6_placesOf_5]
    refine z_iload4 4 7 rfl rfl ?_
    refine z_aload0 5 8 rfl rfl ?_
    refine z_getI 6 11 5 rfl rfl zf_X6_27 rfl h0 ?_
    refine z_icmp_ge 7 14 53 rfl rfl (by decide) ?_ ?_
    · refine z_iload3 32 54 rfl rfl ?_
      exact z_iret 33 rfl rfl
    · refine z_iload2 8 15 rfl rfl ?_
      refine z_iload4 9 17 rfl rfl ?_
      refine z_ishr 10 18 rfl rfl ?_
      refine z_iconst 11 19 rfl rfl ci_1 ?_
      refine z_iand 12 20 rfl rfl ?_
      refine z_iconst 13 21 rfl rfl ci_1 ?_
      refine z_icmp_ne 14 24 47 rfl rfl (by decide) ?_ ?_
      · refine z_aload0 15 25 rfl rfl ?_
        refine z_getR 16 28 2 rfl rfl zf_X6_18 rfl h0 ?_
        refine z_iload4 17 30 rfl rfl ?_
        refine z_iald 18 31 rfl rfl ?_
        refine z_iload1 19 32 rfl rfl ?_
        refine z_icmp_ne 20 35 47 rfl rfl (by decide) ?_ ?_
        · refine z_iload3 21 36 rfl rfl ?_
          refine z_iconst 22 37 rfl rfl ci_1 ?_
          refine z_aload0 23 38 rfl rfl ?_
          refine z_getR 24 41 1 rfl rfl zf_X6_15 rfl h0 ?_
          refine z_iload4 25 43 rfl rfl ?_
          refine z_iald 26 44 rfl rfl ?_
          refine z_ishl 27 45 rfl rfl ?_
          refine z_ior 28 46 rfl rfl ?_
          refine z_istore3 29 47 rfl rfl rfl (fun v2 => ?_)
          exact t_X6_placesOf_47 X d a0 h0 (f_X6_placesOf_5 a0 n) ih x1 x2 v2 x4 σ
        · exact t_X6_placesOf_47 X d a0 h0 (f_X6_placesOf_5 a0 n) ih x1 x2 x3 x4 σ
      · exact t_X6_placesOf_47 X d a0 h0 (f_X6_placesOf_5 a0 n) ih x1 x2 x3 x4 σ
def f_X6_placesOf (a0 : Nat) (x1 : Int32) (x2 : Int32) (σ : zS) : Option (Int32 × zS) := zck (WC.2 a0 = (6, 0)) (zlt (0 : Int32) (fun v3 => zlt (0 : Int32) (fun v4 => f_X6_placesOf_5 a0 FU x1 x2 v3 v4 σ)))
theorem c_X6_placesOf (X : zX) (d : Nat) (a0 : Nat) (x1 : Int32) (x2 : Int32) (σ : zS) : ∀ (r : Int32) (σ' : zS), f_X6_placesOf a0 x1 x2 σ = some (r, σ') → zCN X WC d M_X6_placesOf [.ref a0, .int x1, .int x2] σ (zeI r, σ') := by
  refine z_entry [.ref a0, .int x1, .int x2] (by decide +kernel) T_X6_placesOf (Nat.le_of_ble_eq_true rfl) ?_
  show zK X WC (zrm d) M_X6_placesOf (zZ X WC zeI) 0 [some (.ref a0), some (.int x1), some (.int x2), none, none] [] σ (f_X6_placesOf a0 x1 x2 σ)
  unfold f_X6_placesOf
  refine z_ck (fun h0 => ?_)
  refine z_iconst 0 1 rfl rfl ci_0 ?_
  refine z_istore3 1 2 rfl rfl rfl (fun v3 => ?_)
  refine z_iconst 2 3 rfl rfl ci_0 ?_
  refine z_istore4 3 5 rfl rfl rfl (fun v4 => ?_)
  exact t_X6_placesOf_5 X d a0 h0  FU x1 x2 v3 v4 σ
def f_X6_dosOf_71 (a0 : Nat) (H5 : Int32 → Int32 → Int32 → Int32 → zS → Option (Int32 × zS)) (x1 : Int32) (x2 : Int32) (x3 : Int32) (x4 : Int32) (σ : zS) : Option (Int32 × zS) := zlt (x4 + (1 : Int32)) (fun v1 => H5 x1 x2 x3 v1 σ)
theorem t_X6_dosOf_71 (X : zX) (d : Nat) (a0 : Nat) (h0 : WC.2 a0 = (6, 0)) (H5 : Int32 → Int32 → Int32 → Int32 → zS → Option (Int32 × zS)) (hH5 : ∀ (x1 : Int32) (x2 : Int32) (x3 : Int32) (x4 : Int32) (σ : zS), zK X WC (zrm d) M_X6_dosOf (zZ X WC zeI) 5 [some (.ref a0), some (.int x1), some (.int x2), some (.int x3), some (.int x4), none] [] σ (H5 x1 x2 x3 x4 σ)) (x1 : Int32) (x2 : Int32) (x3 : Int32) (x4 : Int32) (σ : zS) : zK X WC (zrm d) M_X6_dosOf (zZ X WC zeI) 71 [some (.ref a0), some (.int x1), some (.int x2), some (.int x3), some (.int x4), none] [] σ (f_X6_dosOf_71 a0 H5 x1 x2 x3 x4 σ) := by
  unfold f_X6_dosOf_71
  refine z_iinc4 44 74 rfl rfl ci_1 rfl (fun v1 => ?_)
  refine z_goto 45 5 rfl (by decide) ?_
  exact hH5 x1 x2 x3 v1 σ
def f_X6_dosOf_70 (a0 : Nat) (H5 : Int32 → Int32 → Int32 → Int32 → zS → Option (Int32 × zS)) (x1 : Int32) (x2 : Int32) (x4 : Int32) (s0 : Int32) (σ : zS) : Option (Int32 × zS) := zlt s0 (fun v2 => f_X6_dosOf_71 a0 H5 x1 x2 v2 x4 σ)
theorem t_X6_dosOf_70 (X : zX) (d : Nat) (a0 : Nat) (h0 : WC.2 a0 = (6, 0)) (H5 : Int32 → Int32 → Int32 → Int32 → zS → Option (Int32 × zS)) (hH5 : ∀ (x1 : Int32) (x2 : Int32) (x3 : Int32) (x4 : Int32) (σ : zS), zK X WC (zrm d) M_X6_dosOf (zZ X WC zeI) 5 [some (.ref a0), some (.int x1), some (.int x2), some (.int x3), some (.int x4), none] [] σ (H5 x1 x2 x3 x4 σ)) (x1 : Int32) (x2 : Int32) (x4 : Int32) (s0 : Int32) (σ : zS) : zK X WC (zrm d) M_X6_dosOf (zZ X WC zeI) 70 [some (.ref a0), some (.int x1), some (.int x2), none, some (.int x4), none] [.int s0] σ (f_X6_dosOf_70 a0 H5 x1 x2 x4 s0 σ) := by
  unfold f_X6_dosOf_70
  refine z_istore3 43 71 rfl rfl rfl (fun v2 => ?_)
  exact t_X6_dosOf_71 X d a0 h0 H5 hH5 x1 x2 v2 x4 σ
def f_X6_dosOf_5 (a0 : Nat) : Nat → Int32 → Int32 → Int32 → Int32 → zS → Option (Int32 × zS)
  | 0, _, _, _, _, _ => none
  | n + 1, x1, x2, x3, x4, σ => zbr ((σ.1 a0 5) ≤ x4) (some (x3, σ)) (zbr (((x2 >>> (x4 &&& 31)) &&& (1 : Int32)) = (1 : Int32)) (zck (zok 100 (WC.2 (σ.2 a0 2)) x4) (zbr ((σ.1 (σ.2 a0 2) x4.toNatClampNeg) = x1) (zck (zok 100 (WC.2 (σ.2 a0 1)) x4) (zlt ((1 : Int32) <<< ((σ.1 (σ.2 a0 1) x4.toNatClampNeg) &&& 31)) (fun v3 => zck (zok 100 (WC.2 (σ.2 a0 3)) x4) (zbr ((σ.1 (σ.2 a0 3) x4.toNatClampNeg) = (1 : Int32)) (f_X6_dosOf_70 a0 (f_X6_dosOf_5 a0 n) x1 x2 x4 (x3 ||| v3) σ) (f_X6_dosOf_70 a0 (f_X6_dosOf_5 a0 n) x1 x2 x4 (x3 &&& (v3 ^^^ (-1 : Int32))) σ))))) (f_X6_dosOf_71 a0 (f_X6_dosOf_5 a0 n) x1 x2 x3 x4 σ))) (f_X6_dosOf_71 a0 (f_X6_dosOf_5 a0 n) x1 x2 x3 x4 σ))
theorem t_X6_dosOf_5 (X : zX) (d : Nat) (a0 : Nat) (h0 : WC.2 a0 = (6, 0)) : ∀ (n : Nat) (x1 : Int32) (x2 : Int32) (x3 : Int32) (x4 : Int32) (σ : zS), zK X WC (zrm d) M_X6_dosOf (zZ X WC zeI) 5 [some (.ref a0), some (.int x1), some (.int x2), some (.int x3), some (.int x4), none] [] σ (f_X6_dosOf_5 a0 n x1 x2 x3 x4 σ) := by
  intro n
  induction n with
  | zero => intro x1 x2 x3 x4 σ; exact z_none
  | succ n ih =>
    intro x1 x2 x3 x4 σ
    rw [f_X6_dosOf_5]
    refine z_iload4 4 7 rfl rfl ?_
    refine z_aload0 5 8 rfl rfl ?_
    refine z_getI 6 11 5 rfl rfl zf_X6_27 rfl h0 ?_
    refine z_icmp_ge 7 14 77 rfl rfl (by decide) ?_ ?_
    · refine z_iload3 46 78 rfl rfl ?_
      exact z_iret 47 rfl rfl
    · refine z_iload2 8 15 rfl rfl ?_
      refine z_iload4 9 17 rfl rfl ?_
      refine z_ishr 10 18 rfl rfl ?_
      refine z_iconst 11 19 rfl rfl ci_1 ?_
      refine z_iand 12 20 rfl rfl ?_
      refine z_iconst 13 21 rfl rfl ci_1 ?_
      refine z_icmp_ne 14 24 71 rfl rfl (by decide) ?_ ?_
      · refine z_aload0 15 25 rfl rfl ?_
        refine z_getR 16 28 2 rfl rfl zf_X6_18 rfl h0 ?_
        refine z_iload4 17 30 rfl rfl ?_
        refine z_iald 18 31 rfl rfl ?_
        refine z_iload1 19 32 rfl rfl ?_
        refine z_icmp_ne 20 35 71 rfl rfl (by decide) ?_ ?_
        · refine z_iconst 21 36 rfl rfl ci_1 ?_
          refine z_aload0 22 37 rfl rfl ?_
          refine z_getR 23 40 1 rfl rfl zf_X6_15 rfl h0 ?_
          refine z_iload4 24 42 rfl rfl ?_
          refine z_iald 25 43 rfl rfl ?_
          refine z_ishl 26 44 rfl rfl ?_
          refine z_istore5 27 46 rfl rfl rfl (fun v3 => ?_)
          refine z_aload0 28 47 rfl rfl ?_
          refine z_getR 29 50 3 rfl rfl zf_X6_21 rfl h0 ?_
          refine z_iload4 30 52 rfl rfl ?_
          refine z_iald 31 53 rfl rfl ?_
          refine z_iconst 32 54 rfl rfl ci_1 ?_
          refine z_icmp_ne 33 57 64 rfl rfl (by decide) ?_ ?_
          · refine z_iload3 34 58 rfl rfl ?_
            refine z_iload5 35 60 rfl rfl ?_
            refine z_ior 36 61 rfl rfl ?_
            refine z_goto 37 70 rfl (by decide) ?_
            exact z_wk (zle_e (zle_e (zle_e (zle_n (zle_e (zle_n zle_0)))))) (t_X6_dosOf_70 X d a0 h0 (f_X6_dosOf_5 a0 n) ih x1 x2 x4 (x3 ||| v3) σ)
          · refine z_iload3 38 65 rfl rfl ?_
            refine z_iload5 39 67 rfl rfl ?_
            refine z_iconst 40 68 rfl rfl ci_m1 ?_
            refine z_ixor 41 69 rfl rfl ?_
            refine z_iand 42 70 rfl rfl ?_
            exact z_wk (zle_e (zle_e (zle_e (zle_n (zle_e (zle_n zle_0)))))) (t_X6_dosOf_70 X d a0 h0 (f_X6_dosOf_5 a0 n) ih x1 x2 x4 (x3 &&& (v3 ^^^ (-1 : Int32))) σ)
        · exact t_X6_dosOf_71 X d a0 h0 (f_X6_dosOf_5 a0 n) ih x1 x2 x3 x4 σ
      · exact t_X6_dosOf_71 X d a0 h0 (f_X6_dosOf_5 a0 n) ih x1 x2 x3 x4 σ
def f_X6_dosOf (a0 : Nat) (x1 : Int32) (x2 : Int32) (σ : zS) : Option (Int32 × zS) := zck (WC.2 a0 = (6, 0)) (zlt (0 : Int32) (fun v4 => zlt (0 : Int32) (fun v5 => f_X6_dosOf_5 a0 FU x1 x2 v4 v5 σ)))
theorem c_X6_dosOf (X : zX) (d : Nat) (a0 : Nat) (x1 : Int32) (x2 : Int32) (σ : zS) : ∀ (r : Int32) (σ' : zS), f_X6_dosOf a0 x1 x2 σ = some (r, σ') → zCN X WC d M_X6_dosOf [.ref a0, .int x1, .int x2] σ (zeI r, σ') := by
  refine z_entry [.ref a0, .int x1, .int x2] (by decide +kernel) T_X6_dosOf (Nat.le_of_ble_eq_true rfl) ?_
  show zK X WC (zrm d) M_X6_dosOf (zZ X WC zeI) 0 [some (.ref a0), some (.int x1), some (.int x2), none, none, none] [] σ (f_X6_dosOf a0 x1 x2 σ)
  unfold f_X6_dosOf
  refine z_ck (fun h0 => ?_)
  refine z_iconst 0 1 rfl rfl ci_0 ?_
  refine z_istore3 1 2 rfl rfl rfl (fun v4 => ?_)
  refine z_iconst 2 3 rfl rfl ci_0 ?_
  refine z_istore4 3 5 rfl rfl rfl (fun v5 => ?_)
  exact t_X6_dosOf_5 X d a0 h0  FU x1 x2 v4 v5 σ
def f_X6_empty (a0 : Nat) (σ : zS) : Option (Unit × zS) := zck (WC.2 a0 = (6, 0)) (zlt (zpi σ a0 5 (0 : Int32)) (fun σ1 => zlt (zpi σ1 a0 6 (0 : Int32)) (fun σ2 => zlt (zpi σ2 a0 7 (0 : Int32)) (fun σ3 => some ((), σ3)))))
theorem c_X6_empty (X : zX) (d : Nat) (a0 : Nat) (σ : zS) : ∀ (r : Unit) (σ' : zS), f_X6_empty a0 σ = some (r, σ') → zCN X WC d M_X6_empty [.ref a0] σ (zeV r, σ') := by
  refine z_entry [.ref a0] (by decide +kernel) T_X6_empty (Nat.le_of_ble_eq_true rfl) ?_
  show zK X WC (zrm d) M_X6_empty (zZ X WC zeV) 0 [some (.ref a0)] [] σ (f_X6_empty a0 σ)
  unfold f_X6_empty
  refine z_ck (fun h0 => ?_)
  refine z_aload0 0 1 rfl rfl ?_
  refine z_iconst 1 2 rfl rfl ci_0 ?_
  refine z_putI 2 5 5 rfl rfl zf_X6_27 rfl rfl rfl h0 (fun σ1 => ?_)
  refine z_aload0 3 6 rfl rfl ?_
  refine z_iconst 4 7 rfl rfl ci_0 ?_
  refine z_putI 5 10 6 rfl rfl zf_X6_31 rfl rfl rfl h0 (fun σ2 => ?_)
  refine z_aload0 6 11 rfl rfl ?_
  refine z_iconst 7 12 rfl rfl ci_0 ?_
  refine z_putI 8 15 7 rfl rfl zf_X6_34 rfl rfl rfl h0 (fun σ3 => ?_)
  exact z_vret 9 rfl rfl
def f_X3_empty (a0 : Nat) (σ : zS) : Option (Unit × zS) := zck (WC.2 a0 = (3, 0)) (zck (WC.2 (σ.2 a0 7) = (6, 0)) (zbd (f_X6_empty (σ.2 a0 7) σ) (fun r2 σ3 => zck (WC.2 (σ3.2 a0 8) = (0, 0)) (zlt (zpi σ3 (σ3.2 a0 8) 4 (0 : Int32)) (fun σ5 => zlt (zpi σ5 a0 9 (0 : Int32)) (fun σ6 => zlt (zpi σ6 a0 10 (0 : Int32)) (fun σ7 => zlt (zpi σ7 a0 11 (0 : Int32)) (fun σ8 => zlt (zpi σ8 a0 12 (0 : Int32)) (fun σ9 => zlt (zpi σ9 a0 13 (0 : Int32)) (fun σ10 => zlt (zpi σ10 a0 14 (0 : Int32)) (fun σ11 => zlt (zpi σ11 a0 15 (0 : Int32)) (fun σ12 => some ((), σ12)))))))))))))
theorem c_X3_empty (X : zX) (d : Nat) (hd : 1 ≤ d) (a0 : Nat) (σ : zS) : ∀ (r : Unit) (σ' : zS), f_X3_empty a0 σ = some (r, σ') → zCN X WC d M_X3_empty [.ref a0] σ (zeV r, σ') := by
  obtain ⟨d, rfl⟩ : ∃ e, d = e + 1 := ⟨d - 1, by omega⟩
  refine z_entry [.ref a0] (by decide +kernel) T_X3_empty (Nat.le_of_ble_eq_true rfl) ?_
  show zK X WC (zrm (d + 1)) M_X3_empty (zZ X WC zeV) 0 [some (.ref a0)] [] σ (f_X3_empty a0 σ)
  unfold f_X3_empty
  refine z_ck (fun h0 => ?_)
  refine z_aload0 0 1 rfl rfl ?_
  refine z_getR 1 4 7 rfl rfl zf_X3_36 rfl h0 ?_
  refine z_ck (fun h1 => ?_)
  refine z_cV0V 2 7 rfl rfl zl_X3_47 F_X6_empty (zR_rm (by omega)) (c_X6_empty X d (σ.2 a0 7) σ) ⟨by decide, rfl, rfl⟩ h1 rfl (Nat.le_of_ble_eq_true rfl) (fun r2 σ3 => ?_)
  refine z_aload0 3 8 rfl rfl ?_
  refine z_getR 4 11 8 rfl rfl zf_X3_43 rfl h0 ?_
  refine z_iconst 5 12 rfl rfl ci_0 ?_
  refine z_ck (fun h4 => ?_)
  refine z_putI 6 15 4 rfl rfl zf_X3_50 rfl rfl rfl h4 (fun σ5 => ?_)
  refine z_aload0 7 16 rfl rfl ?_
  refine z_iconst 8 17 rfl rfl ci_0 ?_
  refine z_putI 9 20 9 rfl rfl zf_X3_54 rfl rfl rfl h0 (fun σ6 => ?_)
  refine z_aload0 10 21 rfl rfl ?_
  refine z_iconst 11 22 rfl rfl ci_0 ?_
  refine z_putI 12 25 10 rfl rfl zf_X3_57 rfl rfl rfl h0 (fun σ7 => ?_)
  refine z_aload0 13 26 rfl rfl ?_
  refine z_iconst 14 27 rfl rfl ci_0 ?_
  refine z_putI 15 30 11 rfl rfl zf_X3_60 rfl rfl rfl h0 (fun σ8 => ?_)
  refine z_aload0 16 31 rfl rfl ?_
  refine z_iconst 17 32 rfl rfl ci_0 ?_
  refine z_putI 18 35 12 rfl rfl zf_X3_63 rfl rfl rfl h0 (fun σ9 => ?_)
  refine z_aload0 19 36 rfl rfl ?_
  refine z_iconst 20 37 rfl rfl ci_0 ?_
  refine z_putI 21 40 13 rfl rfl zf_X3_66 rfl rfl rfl h0 (fun σ10 => ?_)
  refine z_aload0 22 41 rfl rfl ?_
  refine z_iconst 23 42 rfl rfl ci_0 ?_
  refine z_putI 24 45 14 rfl rfl zf_X3_69 rfl rfl rfl h0 (fun σ11 => ?_)
  refine z_aload0 25 46 rfl rfl ?_
  refine z_iconst 26 47 rfl rfl ci_0 ?_
  refine z_putI 27 50 15 rfl rfl zf_X3_72 rfl rfl rfl h0 (fun σ12 => ?_)
  exact z_vret 28 rfl rfl
def f_X3_hasRank_2 (a0 : Nat) : Nat → Int32 → Int32 → zS → Option (Int32 × zS)
  | 0, _, _, _ => none
  | n + 1, x1, x2, σ => zbr ((σ.1 a0 10) ≤ x2) (zck (zb (0 : Int32)) (some ((0 : Int32), σ))) (zck (zok 100 (WC.2 (σ.2 a0 0)) x2) (zbr ((σ.1 (σ.2 a0 0) x2.toNatClampNeg) = x1) (zck (zb (1 : Int32)) (some ((1 : Int32), σ))) (zlt (x2 + (1 : Int32)) (fun v1 => f_X3_hasRank_2 a0 n x1 v1 σ))))
theorem t_X3_hasRank_2 (X : zX) (d : Nat) (a0 : Nat) (h0 : WC.2 a0 = (3, 0)) : ∀ (n : Nat) (x1 : Int32) (x2 : Int32) (σ : zS), zK X WC (zrm d) M_X3_hasRank (zZ X WC zeI) 2 [some (.ref a0), some (.int x1), some (.int x2)] [] σ (f_X3_hasRank_2 a0 n x1 x2 σ) := by
  intro n
  induction n with
  | zero => intro x1 x2 σ; exact z_none
  | succ n ih =>
    intro x1 x2 σ
    rw [f_X3_hasRank_2]
    refine z_iload2 2 3 rfl rfl ?_
    refine z_aload0 3 4 rfl rfl ?_
    refine z_getI 4 7 10 rfl rfl zf_X3_57 rfl h0 ?_
    refine z_icmp_ge 5 10 28 rfl rfl (by decide) ?_ ?_
    · refine z_iconst 16 29 rfl rfl ci_0 ?_
      exact z_zret 17 rfl rfl
    · refine z_aload0 6 11 rfl rfl ?_
      refine z_getR 7 14 0 rfl rfl zf_X3_9 rfl h0 ?_
      refine z_iload2 8 15 rfl rfl ?_
      refine z_iald 9 16 rfl rfl ?_
      refine z_iload1 10 17 rfl rfl ?_
      refine z_icmp_ne 11 20 22 rfl rfl (by decide) ?_ ?_
      · refine z_iconst 12 21 rfl rfl ci_1 ?_
        exact z_zret 13 rfl rfl
      · refine z_iinc2 14 25 rfl rfl ci_1 rfl (fun v1 => ?_)
        refine z_goto 15 2 rfl (by decide) ?_
        exact ih x1 v1 σ
def f_X3_hasRank (a0 : Nat) (x1 : Int32) (σ : zS) : Option (Int32 × zS) := zck (WC.2 a0 = (3, 0)) (zlt (0 : Int32) (fun v2 => f_X3_hasRank_2 a0 FU x1 v2 σ))
theorem c_X3_hasRank (X : zX) (d : Nat) (a0 : Nat) (x1 : Int32) (σ : zS) : ∀ (r : Int32) (σ' : zS), f_X3_hasRank a0 x1 σ = some (r, σ') → zCN X WC d M_X3_hasRank [.ref a0, .int x1] σ (zeI r, σ') := by
  refine z_entry [.ref a0, .int x1] (by decide +kernel) T_X3_hasRank (Nat.le_of_ble_eq_true rfl) ?_
  show zK X WC (zrm d) M_X3_hasRank (zZ X WC zeI) 0 [some (.ref a0), some (.int x1), none] [] σ (f_X3_hasRank a0 x1 σ)
  unfold f_X3_hasRank
  refine z_ck (fun h0 => ?_)
  refine z_iconst 0 1 rfl rfl ci_0 ?_
  refine z_istore2 1 2 rfl rfl rfl (fun v2 => ?_)
  exact t_X3_hasRank_2 X d a0 h0  FU x1 v2 σ
def f_X3_hasOver_52 (a0 : Nat) (H2 : Int32 → Int32 → Int32 → zS → Option (Int32 × zS)) (x1 : Int32) (x2 : Int32) (x3 : Int32) (σ : zS) : Option (Int32 × zS) := zlt (x3 + (1 : Int32)) (fun v1 => H2 x1 x2 v1 σ)
theorem t_X3_hasOver_52 (X : zX) (d : Nat) (a0 : Nat) (h0 : WC.2 a0 = (3, 0)) (H2 : Int32 → Int32 → Int32 → zS → Option (Int32 × zS)) (hH2 : ∀ (x1 : Int32) (x2 : Int32) (x3 : Int32) (σ : zS), zK X WC (zrm d) M_X3_hasOver (zZ X WC zeI) 2 [some (.ref a0), some (.int x1), some (.int x2), some (.int x3)] [] σ (H2 x1 x2 x3 σ)) (x1 : Int32) (x2 : Int32) (x3 : Int32) (σ : zS) : zK X WC (zrm d) M_X3_hasOver (zZ X WC zeI) 52 [some (.ref a0), some (.int x1), some (.int x2), some (.int x3)] [] σ (f_X3_hasOver_52 a0 H2 x1 x2 x3 σ) := by
  unfold f_X3_hasOver_52
  refine z_iinc3 32 55 rfl rfl ci_1 rfl (fun v1 => ?_)
  refine z_goto 33 2 rfl (by decide) ?_
  exact hH2 x1 x2 v1 σ
def f_X3_hasOver_30 (a0 : Nat) (H2 : Int32 → Int32 → Int32 → zS → Option (Int32 × zS)) (x1 : Int32) (x2 : Int32) (x3 : Int32) (σ : zS) : Option (Int32 × zS) := zck (zok 100 (WC.2 (σ.2 a0 2)) x3) (zbr ((σ.1 (σ.2 a0 2) x3.toNatClampNeg) = x2) (zck (zok 100 (WC.2 (σ.2 a0 3)) x3) (zbr ((σ.1 (σ.2 a0 3) x3.toNatClampNeg) = x1) (zck (zb (1 : Int32)) (some ((1 : Int32), σ))) (f_X3_hasOver_52 a0 H2 x1 x2 x3 σ))) (f_X3_hasOver_52 a0 H2 x1 x2 x3 σ))
theorem t_X3_hasOver_30 (X : zX) (d : Nat) (a0 : Nat) (h0 : WC.2 a0 = (3, 0)) (H2 : Int32 → Int32 → Int32 → zS → Option (Int32 × zS)) (hH2 : ∀ (x1 : Int32) (x2 : Int32) (x3 : Int32) (σ : zS), zK X WC (zrm d) M_X3_hasOver (zZ X WC zeI) 2 [some (.ref a0), some (.int x1), some (.int x2), some (.int x3)] [] σ (H2 x1 x2 x3 σ)) (x1 : Int32) (x2 : Int32) (x3 : Int32) (σ : zS) : zK X WC (zrm d) M_X3_hasOver (zZ X WC zeI) 30 [some (.ref a0), some (.int x1), some (.int x2), some (.int x3)] [] σ (f_X3_hasOver_30 a0 H2 x1 x2 x3 σ) := by
  unfold f_X3_hasOver_30
  refine z_aload0 18 31 rfl rfl ?_
  refine z_getR 19 34 2 rfl rfl zf_X3_18 rfl h0 ?_
  refine z_iload3 20 35 rfl rfl ?_
  refine z_iald 21 36 rfl rfl ?_
  refine z_iload2 22 37 rfl rfl ?_
  refine z_icmp_ne 23 40 52 rfl rfl (by decide) ?_ ?_
  · refine z_aload0 24 41 rfl rfl ?_
    refine z_getR 25 44 3 rfl rfl zf_X3_21 rfl h0 ?_
    refine z_iload3 26 45 rfl rfl ?_
    refine z_iald 27 46 rfl rfl ?_
    refine z_iload1 28 47 rfl rfl ?_
    refine z_icmp_ne 29 50 52 rfl rfl (by decide) ?_ ?_
    · refine z_iconst 30 51 rfl rfl ci_1 ?_
      exact z_zret 31 rfl rfl
    · exact t_X3_hasOver_52 X d a0 h0 H2 hH2 x1 x2 x3 σ
  · exact t_X3_hasOver_52 X d a0 h0 H2 hH2 x1 x2 x3 σ
def f_X3_hasOver_2 (a0 : Nat) : Nat → Int32 → Int32 → Int32 → zS → Option (Int32 × zS)
  | 0, _, _, _, _ => none
  | n + 1, x1, x2, x3, σ => zbr ((σ.1 a0 11) ≤ x3) (zck (zb (0 : Int32)) (some ((0 : Int32), σ))) (zck (zok 100 (WC.2 (σ.2 a0 2)) x3) (zbr ((σ.1 (σ.2 a0 2) x3.toNatClampNeg) = x1) (zck (zok 100 (WC.2 (σ.2 a0 3)) x3) (zbr ((σ.1 (σ.2 a0 3) x3.toNatClampNeg) = x2) (zck (zb (1 : Int32)) (some ((1 : Int32), σ))) (f_X3_hasOver_30 a0 (f_X3_hasOver_2 a0 n) x1 x2 x3 σ))) (f_X3_hasOver_30 a0 (f_X3_hasOver_2 a0 n) x1 x2 x3 σ)))
theorem t_X3_hasOver_2 (X : zX) (d : Nat) (a0 : Nat) (h0 : WC.2 a0 = (3, 0)) : ∀ (n : Nat) (x1 : Int32) (x2 : Int32) (x3 : Int32) (σ : zS), zK X WC (zrm d) M_X3_hasOver (zZ X WC zeI) 2 [some (.ref a0), some (.int x1), some (.int x2), some (.int x3)] [] σ (f_X3_hasOver_2 a0 n x1 x2 x3 σ) := by
  intro n
  induction n with
  | zero => intro x1 x2 x3 σ; exact z_none
  | succ n ih =>
    intro x1 x2 x3 σ
    rw [f_X3_hasOver_2]
    refine z_iload3 2 3 rfl rfl ?_
    refine z_aload0 3 4 rfl rfl ?_
    refine z_getI 4 7 11 rfl rfl zf_X3_60 rfl h0 ?_
    refine z_icmp_ge 5 10 58 rfl rfl (by decide) ?_ ?_
    · refine z_iconst 34 59 rfl rfl ci_0 ?_
      exact z_zret 35 rfl rfl
    · refine z_aload0 6 11 rfl rfl ?_
      refine z_getR 7 14 2 rfl rfl zf_X3_18 rfl h0 ?_
      refine z_iload3 8 15 rfl rfl ?_
      refine z_iald 9 16 rfl rfl ?_
      refine z_iload1 10 17 rfl rfl ?_
      refine z_icmp_ne 11 20 30 rfl rfl (by decide) ?_ ?_
      · refine z_aload0 12 21 rfl rfl ?_
        refine z_getR 13 24 3 rfl rfl zf_X3_21 rfl h0 ?_
        refine z_iload3 14 25 rfl rfl ?_
        refine z_iald 15 26 rfl rfl ?_
        refine z_iload2 16 27 rfl rfl ?_
        refine z_icmp_eq 17 30 50 rfl rfl (by decide) ?_ ?_
        · refine z_iconst 30 51 rfl rfl ci_1 ?_
          exact z_zret 31 rfl rfl
        · exact t_X3_hasOver_30 X d a0 h0 (f_X3_hasOver_2 a0 n) ih x1 x2 x3 σ
      · exact t_X3_hasOver_30 X d a0 h0 (f_X3_hasOver_2 a0 n) ih x1 x2 x3 σ
def f_X3_hasOver (a0 : Nat) (x1 : Int32) (x2 : Int32) (σ : zS) : Option (Int32 × zS) := zck (WC.2 a0 = (3, 0)) (zlt (0 : Int32) (fun v2 => f_X3_hasOver_2 a0 FU x1 x2 v2 σ))
theorem c_X3_hasOver (X : zX) (d : Nat) (a0 : Nat) (x1 : Int32) (x2 : Int32) (σ : zS) : ∀ (r : Int32) (σ' : zS), f_X3_hasOver a0 x1 x2 σ = some (r, σ') → zCN X WC d M_X3_hasOver [.ref a0, .int x1, .int x2] σ (zeI r, σ') := by
  refine z_entry [.ref a0, .int x1, .int x2] (by decide +kernel) T_X3_hasOver (Nat.le_of_ble_eq_true rfl) ?_
  show zK X WC (zrm d) M_X3_hasOver (zZ X WC zeI) 0 [some (.ref a0), some (.int x1), some (.int x2), none] [] σ (f_X3_hasOver a0 x1 x2 σ)
  unfold f_X3_hasOver
  refine z_ck (fun h0 => ?_)
  refine z_iconst 0 1 rfl rfl ci_0 ?_
  refine z_istore3 1 2 rfl rfl rfl (fun v2 => ?_)
  exact t_X3_hasOver_2 X d a0 h0  FU x1 x2 v2 σ
def f_X9_isSame_17 (a0 : Nat) : Nat → Int32 → Int32 → Int32 → zS → Option (Int32 × zS)
  | 0, _, _, _, _ => none
  | n + 1, x1, x2, x3, σ => zbr (x2 ≤ x3) (zck (zb (1 : Int32)) (some ((1 : Int32), σ))) (zck (zok 101 (WC.2 (σ.2 a0 0)) ((σ.1 a0 3) + x3)) (zck (zok 101 (WC.2 (σ.2 a0 0)) (x1 + x3)) (zbr ((σ.1 (σ.2 a0 0) ((σ.1 a0 3) + x3).toNatClampNeg) = (σ.1 (σ.2 a0 0) (x1 + x3).toNatClampNeg)) (zlt (x3 + (1 : Int32)) (fun v1 => f_X9_isSame_17 a0 n x1 x2 v1 σ)) (zck (zb (0 : Int32)) (some ((0 : Int32), σ))))))
theorem t_X9_isSame_17 (X : zX) (d : Nat) (a0 : Nat) (h0 : WC.2 a0 = (9, 0)) : ∀ (n : Nat) (x1 : Int32) (x2 : Int32) (x3 : Int32) (σ : zS), zK X WC (zrm d) M_X9_isSame (zZ X WC zeI) 17 [some (.ref a0), some (.int x1), some (.int x2), some (.int x3)] [] σ (f_X9_isSame_17 a0 n x1 x2 x3 σ) := by
  intro n
  induction n with
  | zero => intro x1 x2 x3 σ; exact z_none
  | succ n ih =>
    intro x1 x2 x3 σ
    rw [f_X9_isSame_17]
    refine z_iload3 11 18 rfl rfl ?_
    refine z_iload2 12 19 rfl rfl ?_
    refine z_icmp_ge 13 22 52 rfl rfl (by decide) ?_ ?_
    · refine z_iconst 32 53 rfl rfl ci_1 ?_
      exact z_zret 33 rfl rfl
    · refine z_aload0 14 23 rfl rfl ?_
      refine z_getR 15 26 0 rfl rfl zf_X9_9 rfl h0 ?_
      refine z_aload0 16 27 rfl rfl ?_
      refine z_getI 17 30 3 rfl rfl zf_X9_28 rfl h0 ?_
      refine z_iload3 18 31 rfl rfl ?_
      refine z_iadd 19 32 rfl rfl ?_
      refine z_bald 20 33 rfl rfl ?_
      refine z_aload0 21 34 rfl rfl ?_
      refine z_getR 22 37 0 rfl rfl zf_X9_9 rfl h0 ?_
      refine z_iload1 23 38 rfl rfl ?_
      refine z_iload3 24 39 rfl rfl ?_
      refine z_iadd 25 40 rfl rfl ?_
      refine z_bald 26 41 rfl rfl ?_
      refine z_icmp_eq 27 44 46 rfl rfl (by decide) ?_ ?_
      · refine z_iinc3 30 49 rfl rfl ci_1 rfl (fun v1 => ?_)
        refine z_goto 31 17 rfl (by decide) ?_
        exact ih x1 x2 v1 σ
      · refine z_iconst 28 45 rfl rfl ci_0 ?_
        exact z_zret 29 rfl rfl
def f_X9_isSame (a0 : Nat) (x1 : Int32) (x2 : Int32) (σ : zS) : Option (Int32 × zS) := zck (WC.2 a0 = (9, 0)) (zbr (((σ.1 a0 4) - (σ.1 a0 3)) = x2) (zlt (0 : Int32) (fun v2 => f_X9_isSame_17 a0 FU x1 x2 v2 σ)) (zck (zb (0 : Int32)) (some ((0 : Int32), σ))))
theorem c_X9_isSame (X : zX) (d : Nat) (a0 : Nat) (x1 : Int32) (x2 : Int32) (σ : zS) : ∀ (r : Int32) (σ' : zS), f_X9_isSame a0 x1 x2 σ = some (r, σ') → zCN X WC d M_X9_isSame [.ref a0, .int x1, .int x2] σ (zeI r, σ') := by
  refine z_entry [.ref a0, .int x1, .int x2] (by decide +kernel) T_X9_isSame (Nat.le_of_ble_eq_true rfl) ?_
  show zK X WC (zrm d) M_X9_isSame (zZ X WC zeI) 0 [some (.ref a0), some (.int x1), some (.int x2), none] [] σ (f_X9_isSame a0 x1 x2 σ)
  unfold f_X9_isSame
  refine z_ck (fun h0 => ?_)
  refine z_aload0 0 1 rfl rfl ?_
  refine z_getI 1 4 4 rfl rfl zf_X9_22 rfl h0 ?_
  refine z_aload0 2 5 rfl rfl ?_
  refine z_getI 3 8 3 rfl rfl zf_X9_28 rfl h0 ?_
  refine z_isub 4 9 rfl rfl ?_
  refine z_iload2 5 10 rfl rfl ?_
  refine z_icmp_eq 6 13 15 rfl rfl (by decide) ?_ ?_
  · refine z_iconst 9 16 rfl rfl ci_0 ?_
    refine z_istore3 10 17 rfl rfl rfl (fun v2 => ?_)
    exact t_X9_isSame_17 X d a0 h0  FU x1 x2 v2 σ
  · refine z_iconst 7 14 rfl rfl ci_0 ?_
    exact z_zret 8 rfl rfl
def f_X4_indexOf_2 (a0 : Nat) : Nat → Nat → Int32 → zS → Option (Int32 × zS)
  | 0, _, _, _ => none
  | n + 1, x1, x2, σ => zbr ((σ.1 a0 4) ≤ x2) (some ((-1 : Int32), σ)) (zck (zok 100 (WC.2 (σ.2 a0 0)) x2) (zck (zok 100 (WC.2 (σ.2 a0 1)) x2) (zck (WC.2 x1 = (9, 0)) (zbd (f_X9_isSame x1 (σ.1 (σ.2 a0 0) x2.toNatClampNeg) (σ.1 (σ.2 a0 1) x2.toNatClampNeg) σ) (fun r2 σ3 => zbr (r2 = 0) (zlt (x2 + (1 : Int32)) (fun v4 => f_X4_indexOf_2 a0 n x1 v4 σ3)) (some (x2, σ3)))))))
theorem t_X4_indexOf_2 (X : zX) (d : Nat) (hd : 1 ≤ d + 1) (a0 : Nat) (h0 : WC.2 a0 = (4, 0)) : ∀ (n : Nat) (x1 : Nat) (x2 : Int32) (σ : zS), zK X WC (zrm (d + 1)) M_X4_indexOf (zZ X WC zeI) 2 [some (.ref a0), some (.ref x1), some (.int x2)] [] σ (f_X4_indexOf_2 a0 n x1 x2 σ) := by
  intro n
  induction n with
  | zero => intro x1 x2 σ; exact z_none
  | succ n ih =>
    intro x1 x2 σ
    rw [f_X4_indexOf_2]
    refine z_iload2 2 3 rfl rfl ?_
    refine z_aload0 3 4 rfl rfl ?_
    refine z_getI 4 7 4 rfl rfl zf_X4_24 rfl h0 ?_
    refine z_icmp_ge 5 10 37 rfl rfl (by decide) ?_ ?_
    · refine z_iconst 21 38 rfl rfl ci_m1 ?_
      exact z_iret 22 rfl rfl
    · refine z_aload1 6 11 rfl rfl ?_
      refine z_aload0 7 12 rfl rfl ?_
      refine z_getR 8 15 0 rfl rfl zf_X4_11 rfl h0 ?_
      refine z_iload2 9 16 rfl rfl ?_
      refine z_iald 10 17 rfl rfl ?_
      refine z_aload0 11 18 rfl rfl ?_
      refine z_getR 12 21 1 rfl rfl zf_X4_15 rfl h0 ?_
      refine z_iload2 13 22 rfl rfl ?_
      refine z_iald 14 23 rfl rfl ?_
      refine z_ck (fun h1 => ?_)
      refine z_cV2I 15 26 rfl rfl zl_X4_28 F_X9_isSame (zR_rm (by omega)) (c_X9_isSame X d x1 (σ.1 (σ.2 a0 0) x2.toNatClampNeg) (σ.1 (σ.2 a0 1) x2.toNatClampNeg) σ) ⟨by decide, rfl, rfl⟩ h1 rfl (Nat.le_of_ble_eq_true rfl) (fun r2 σ3 => ?_)
      refine z_if_eq 16 29 31 rfl rfl (by decide) ?_ ?_
      · refine z_iinc2 19 34 rfl rfl ci_1 rfl (fun v4 => ?_)
        refine z_goto 20 2 rfl (by decide) ?_
        exact ih x1 v4 σ3
      · refine z_iload2 17 30 rfl rfl ?_
        exact z_iret 18 rfl rfl
def f_X4_indexOf (a0 : Nat) (x1 : Nat) (σ : zS) : Option (Int32 × zS) := zck (WC.2 a0 = (4, 0)) (zlt (0 : Int32) (fun v5 => f_X4_indexOf_2 a0 FU x1 v5 σ))
theorem c_X4_indexOf (X : zX) (d : Nat) (hd : 1 ≤ d) (a0 : Nat) (x1 : Nat) (σ : zS) : ∀ (r : Int32) (σ' : zS), f_X4_indexOf a0 x1 σ = some (r, σ') → zCN X WC d M_X4_indexOf [.ref a0, .ref x1] σ (zeI r, σ') := by
  obtain ⟨d, rfl⟩ : ∃ e, d = e + 1 := ⟨d - 1, by omega⟩
  refine z_entry [.ref a0, .ref x1] (by decide +kernel) T_X4_indexOf (Nat.le_of_ble_eq_true rfl) ?_
  show zK X WC (zrm (d + 1)) M_X4_indexOf (zZ X WC zeI) 0 [some (.ref a0), some (.ref x1), none] [] σ (f_X4_indexOf a0 x1 σ)
  unfold f_X4_indexOf
  refine z_ck (fun h0 => ?_)
  refine z_iconst 0 1 rfl rfl ci_0 ?_
  refine z_istore2 1 2 rfl rfl rfl (fun v5 => ?_)
  exact t_X4_indexOf_2 X d hd a0 h0  FU x1 v5 σ
def f_X4_add (a0 : Nat) (x1 : Nat) (x2 : Int32) (x3 : Int32) (σ : zS) : Option (Unit × zS) := zck (WC.2 a0 = (4, 0)) (zbr ((σ.1 a0 4) < (14 : Int32)) (zck (WC.2 x1 = (9, 0)) (zck (zok 100 (WC.2 (σ.2 a0 0)) (σ.1 a0 4)) (zlt (zpi σ (σ.2 a0 0) (σ.1 a0 4).toNatClampNeg (σ.1 x1 3)) (fun σ2 => zck (zok 100 (WC.2 (σ2.2 a0 1)) (σ2.1 a0 4)) (zlt (zpi σ2 (σ2.2 a0 1) (σ2.1 a0 4).toNatClampNeg ((σ2.1 x1 4) - (σ2.1 x1 3))) (fun σ3 => zck (zok 100 (WC.2 (σ3.2 a0 2)) (σ3.1 a0 4)) (zlt (zpi σ3 (σ3.2 a0 2) (σ3.1 a0 4).toNatClampNeg x2) (fun σ4 => zck (zok 100 (WC.2 (σ4.2 a0 3)) (σ4.1 a0 4)) (zlt (zpi σ4 (σ4.2 a0 3) (σ4.1 a0 4).toNatClampNeg x3) (fun σ5 => zlt (zpi σ5 a0 4 ((σ5.1 a0 4) + (1 : Int32))) (fun σ6 => some ((), σ6)))))))))))) (some ((), σ)))
theorem c_X4_add (X : zX) (d : Nat) (a0 : Nat) (x1 : Nat) (x2 : Int32) (x3 : Int32) (σ : zS) : ∀ (r : Unit) (σ' : zS), f_X4_add a0 x1 x2 x3 σ = some (r, σ') → zCN X WC d M_X4_add [.ref a0, .ref x1, .int x2, .int x3] σ (zeV r, σ') := by
  refine z_entry [.ref a0, .ref x1, .int x2, .int x3] (by decide +kernel) T_X4_add (Nat.le_of_ble_eq_true rfl) ?_
  show zK X WC (zrm d) M_X4_add (zZ X WC zeV) 0 [some (.ref a0), some (.ref x1), some (.int x2), some (.int x3)] [] σ (f_X4_add a0 x1 x2 x3 σ)
  unfold f_X4_add
  refine z_ck (fun h0 => ?_)
  refine z_aload0 0 1 rfl rfl ?_
  refine z_getI 1 4 4 rfl rfl zf_X4_24 rfl h0 ?_
  refine z_bipush 2 6 rfl rfl cb_14 ?_
  refine z_icmp_lt 3 9 10 rfl rfl (by decide) ?_ ?_
  · refine z_aload0 5 11 rfl rfl ?_
    refine z_getR 6 14 0 rfl rfl zf_X4_11 rfl h0 ?_
    refine z_aload0 7 15 rfl rfl ?_
    refine z_getI 8 18 4 rfl rfl zf_X4_24 rfl h0 ?_
    refine z_aload1 9 19 rfl rfl ?_
    refine z_ck (fun h1 => ?_)
    refine z_getI 10 22 3 rfl rfl zf_X4_34 rfl h1 ?_
    refine z_iast 11 23 rfl rfl (fun σ2 => ?_)
    refine z_aload0 12 24 rfl rfl ?_
    refine z_getR 13 27 1 rfl rfl zf_X4_15 rfl h0 ?_
    refine z_aload0 14 28 rfl rfl ?_
    refine z_getI 15 31 4 rfl rfl zf_X4_24 rfl h0 ?_
    refine z_aload1 16 32 rfl rfl ?_
    refine z_getI 17 35 4 rfl rfl zf_X4_36 rfl h1 ?_
    refine z_aload1 18 36 rfl rfl ?_
    refine z_getI 19 39 3 rfl rfl zf_X4_34 rfl h1 ?_
    refine z_isub 20 40 rfl rfl ?_
    refine z_iast 21 41 rfl rfl (fun σ3 => ?_)
    refine z_aload0 22 42 rfl rfl ?_
    refine z_getR 23 45 2 rfl rfl zf_X4_18 rfl h0 ?_
    refine z_aload0 24 46 rfl rfl ?_
    refine z_getI 25 49 4 rfl rfl zf_X4_24 rfl h0 ?_
    refine z_iload2 26 50 rfl rfl ?_
    refine z_iast 27 51 rfl rfl (fun σ4 => ?_)
    refine z_aload0 28 52 rfl rfl ?_
    refine z_getR 29 55 3 rfl rfl zf_X4_21 rfl h0 ?_
    refine z_aload0 30 56 rfl rfl ?_
    refine z_getI 31 59 4 rfl rfl zf_X4_24 rfl h0 ?_
    refine z_iload3 32 60 rfl rfl ?_
    refine z_iast 33 61 rfl rfl (fun σ5 => ?_)
    refine z_aload0 34 62 rfl rfl ?_
    refine z_dup 35 63 rfl rfl rfl ?_
    refine z_getI 36 66 4 rfl rfl zf_X4_24 rfl h0 ?_
    refine z_iconst 37 67 rfl rfl ci_1 ?_
    refine z_iadd 38 68 rfl rfl ?_
    refine z_putI 39 71 4 rfl rfl zf_X4_24 rfl rfl rfl h0 (fun σ6 => ?_)
    exact z_vret 40 rfl rfl
  · exact z_vret 4 rfl rfl
def f_X5_arrange_142 (a0 : Nat) (H80 : Nat → Int32 → Int32 → zS → Option (Unit × zS)) (x1 : Nat) (x2 : Int32) (x3 : Int32) (σ : zS) : Option (Unit × zS) := zlt (x3 + (1 : Int32)) (fun v1 => H80 x1 x2 v1 σ)
theorem t_X5_arrange_142 (X : zX) (d : Nat) (a0 : Nat) (h0 : WC.2 a0 = (5, 0)) (H80 : Nat → Int32 → Int32 → zS → Option (Unit × zS)) (hH80 : ∀ (x1 : Nat) (x2 : Int32) (x3 : Int32) (σ : zS), zK X WC (zrm d) M_X5_arrange (zZ X WC zeV) 80 [some (.ref a0), some (.ref x1), some (.int x2), some (.int x3), none, none] [] σ (H80 x1 x2 x3 σ)) (x1 : Nat) (x2 : Int32) (x3 : Int32) (σ : zS) : zK X WC (zrm d) M_X5_arrange (zZ X WC zeV) 142 [some (.ref a0), some (.ref x1), some (.int x2), some (.int x3), none, none] [] σ (f_X5_arrange_142 a0 H80 x1 x2 x3 σ) := by
  unfold f_X5_arrange_142
  refine z_iinc3 88 145 rfl rfl ci_1 rfl (fun v1 => ?_)
  refine z_goto 89 80 rfl (by decide) ?_
  exact hH80 x1 x2 v1 σ
def f_X5_arrange_80 (a0 : Nat) : Nat → Nat → Int32 → Int32 → zS → Option (Unit × zS)
  | 0, _, _, _, _ => none
  | n + 1, x1, x2, x3, σ => zck (WC.2 x1 = (3, 0)) (zbr ((σ.1 x1 11) ≤ x3) (some ((), σ)) (zbr (((x2 >>> (x3 &&& 31)) &&& (1 : Int32)) = 0) (zck (zok 100 (WC.2 (σ.2 x1 2)) x3) (zlt (σ.1 (σ.2 x1 2) x3.toNatClampNeg) (fun v3 => zck (zok 100 (WC.2 (σ.2 x1 3)) x3) (zlt (σ.1 (σ.2 x1 3) x3.toNatClampNeg) (fun v4 => zck (zok 100 (WC.2 (σ.2 a0 0)) v3) (zck (zok 100 (WC.2 (σ.2 a0 0)) v3) (zlt (zpi σ (σ.2 a0 0) v3.toNatClampNeg ((σ.1 (σ.2 a0 0) v3.toNatClampNeg) ||| ((1 : Int32) <<< (v4 &&& 31)))) (fun σ5 => zck (zok 100 (WC.2 (σ5.2 a0 0)) v4) (zck (zok 100 (WC.2 (σ5.2 a0 0)) v4) (zlt (zpi σ5 (σ5.2 a0 0) v4.toNatClampNeg ((σ5.1 (σ5.2 a0 0) v4.toNatClampNeg) &&& (((1 : Int32) <<< (v3 &&& 31)) ^^^ (-1 : Int32)))) (fun σ6 => f_X5_arrange_142 a0 (f_X5_arrange_80 a0 n) x1 x2 x3 σ6))))))))))) (f_X5_arrange_142 a0 (f_X5_arrange_80 a0 n) x1 x2 x3 σ)))
theorem t_X5_arrange_80 (X : zX) (d : Nat) (a0 : Nat) (h0 : WC.2 a0 = (5, 0)) : ∀ (n : Nat) (x1 : Nat) (x2 : Int32) (x3 : Int32) (σ : zS), zK X WC (zrm d) M_X5_arrange (zZ X WC zeV) 80 [some (.ref a0), some (.ref x1), some (.int x2), some (.int x3), none, none] [] σ (f_X5_arrange_80 a0 n x1 x2 x3 σ) := by
  intro n
  induction n with
  | zero => intro x1 x2 x3 σ; exact z_none
  | succ n ih =>
    intro x1 x2 x3 σ
    rw [f_X5_arrange_80]
    refine z_iload3 46 81 rfl rfl ?_
    refine z_aload1 47 82 rfl rfl ?_
    refine z_ck (fun h2 => ?_)
    refine z_getI 48 85 11 rfl rfl zf_X5_27 rfl h2 ?_
    refine z_icmp_ge 49 88 148 rfl rfl (by decide) ?_ ?_
    · exact z_vret 90 rfl rfl
    · refine z_iload2 50 89 rfl rfl ?_
      refine z_iload3 51 90 rfl rfl ?_
      refine z_ishr 52 91 rfl rfl ?_
      refine z_iconst 53 92 rfl rfl ci_1 ?_
      refine z_iand 54 93 rfl rfl ?_
      refine z_if_ne 55 96 142 rfl rfl (by decide) ?_ ?_
      · refine z_aload1 56 97 rfl rfl ?_
        refine z_getR 57 100 2 rfl rfl zf_X5_30 rfl h2 ?_
        refine z_iload3 58 101 rfl rfl ?_
        refine z_iald 59 102 rfl rfl ?_
        refine z_istore4 60 104 rfl rfl rfl (fun v3 => ?_)
        refine z_aload1 61 105 rfl rfl ?_
        refine z_getR 62 108 3 rfl rfl zf_X5_33 rfl h2 ?_
        refine z_iload3 63 109 rfl rfl ?_
        refine z_iald 64 110 rfl rfl ?_
        refine z_istore5 65 112 rfl rfl rfl (fun v4 => ?_)
        refine z_aload0 66 113 rfl rfl ?_
        refine z_getR 67 116 0 rfl rfl zf_X5_9 rfl h0 ?_
        refine z_iload4 68 118 rfl rfl ?_
        refine z_dup2 69 119 rfl rfl rfl rfl ?_
        refine z_iald 70 120 rfl rfl ?_
        refine z_iconst 71 121 rfl rfl ci_1 ?_
        refine z_iload5 72 123 rfl rfl ?_
        refine z_ishl 73 124 rfl rfl ?_
        refine z_ior 74 125 rfl rfl ?_
        refine z_iast 75 126 rfl rfl (fun σ5 => ?_)
        refine z_aload0 76 127 rfl rfl ?_
        refine z_getR 77 130 0 rfl rfl zf_X5_9 rfl h0 ?_
        refine z_iload5 78 132 rfl rfl ?_
        refine z_dup2 79 133 rfl rfl rfl rfl ?_
        refine z_iald 80 134 rfl rfl ?_
        refine z_iconst 81 135 rfl rfl ci_1 ?_
        refine z_iload4 82 137 rfl rfl ?_
        refine z_ishl 83 138 rfl rfl ?_
        refine z_iconst 84 139 rfl rfl ci_m1 ?_
        refine z_ixor 85 140 rfl rfl ?_
        refine z_iand 86 141 rfl rfl ?_
        refine z_iast 87 142 rfl rfl (fun σ6 => ?_)
        exact z_wk (zle_e (zle_e (zle_e (zle_e (zle_n (zle_n zle_0)))))) (t_X5_arrange_142 X d a0 h0 (f_X5_arrange_80 a0 n) ih x1 x2 x3 σ6)
      · exact t_X5_arrange_142 X d a0 h0 (f_X5_arrange_80 a0 n) ih x1 x2 x3 σ
def f_X5_arrange_66 (a0 : Nat) (H10 : Nat → Int32 → Int32 → zS → Option (Unit × zS)) (H28 : Nat → Int32 → Int32 → Int32 → zS → Option (Unit × zS)) (x1 : Nat) (x2 : Int32) (x3 : Int32) (x4 : Int32) (σ : zS) : Option (Unit × zS) := zlt (x4 + (1 : Int32)) (fun v7 => H28 x1 x2 x3 v7 σ)
theorem t_X5_arrange_66 (X : zX) (d : Nat) (a0 : Nat) (h0 : WC.2 a0 = (5, 0)) (H10 : Nat → Int32 → Int32 → zS → Option (Unit × zS)) (hH10 : ∀ (x1 : Nat) (x2 : Int32) (x3 : Int32) (σ : zS), zK X WC (zrm d) M_X5_arrange (zZ X WC zeV) 10 [some (.ref a0), some (.ref x1), some (.int x2), some (.int x3), none, none] [] σ (H10 x1 x2 x3 σ)) (H28 : Nat → Int32 → Int32 → Int32 → zS → Option (Unit × zS)) (hH28 : ∀ (x1 : Nat) (x2 : Int32) (x3 : Int32) (x4 : Int32) (σ : zS), zK X WC (zrm d) M_X5_arrange (zZ X WC zeV) 28 [some (.ref a0), some (.ref x1), some (.int x2), some (.int x3), some (.int x4), none] [] σ (H28 x1 x2 x3 x4 σ)) (x1 : Nat) (x2 : Int32) (x3 : Int32) (x4 : Int32) (σ : zS) : zK X WC (zrm d) M_X5_arrange (zZ X WC zeV) 66 [some (.ref a0), some (.ref x1), some (.int x2), some (.int x3), some (.int x4), none] [] σ (f_X5_arrange_66 a0 H10 H28 x1 x2 x3 x4 σ) := by
  unfold f_X5_arrange_66
  refine z_iinc4 40 69 rfl rfl ci_1 rfl (fun v7 => ?_)
  refine z_goto 41 28 rfl (by decide) ?_
  exact hH28 x1 x2 x3 v7 σ
def f_X5_arrange_28 (a0 : Nat) (H10 : Nat → Int32 → Int32 → zS → Option (Unit × zS)) : Nat → Nat → Int32 → Int32 → Int32 → zS → Option (Unit × zS)
  | 0, _, _, _, _, _ => none
  | n + 1, x1, x2, x3, x4, σ => zbr ((σ.1 a0 1) ≤ x4) (zlt (x3 + (1 : Int32)) (fun v8 => H10 x1 x2 v8 σ)) (zck (WC.2 x1 = (3, 0)) (zck (zok 100 (WC.2 (σ.2 x1 0)) x3) (zck (zok 100 (WC.2 (σ.2 x1 0)) x4) (zbr ((σ.1 (σ.2 x1 0) x3.toNatClampNeg) ≤ (σ.1 (σ.2 x1 0) x4.toNatClampNeg)) (f_X5_arrange_66 a0 H10 (f_X5_arrange_28 a0 H10 n) x1 x2 x3 x4 σ) (zck (zok 100 (WC.2 (σ.2 a0 0)) x3) (zck (zok 100 (WC.2 (σ.2 a0 0)) x3) (zlt (zpi σ (σ.2 a0 0) x3.toNatClampNeg ((σ.1 (σ.2 a0 0) x3.toNatClampNeg) ||| ((1 : Int32) <<< (x4 &&& 31)))) (fun σ10 => f_X5_arrange_66 a0 H10 (f_X5_arrange_28 a0 H10 n) x1 x2 x3 x4 σ10))))))))
theorem t_X5_arrange_28 (X : zX) (d : Nat) (a0 : Nat) (h0 : WC.2 a0 = (5, 0)) (H10 : Nat → Int32 → Int32 → zS → Option (Unit × zS)) (hH10 : ∀ (x1 : Nat) (x2 : Int32) (x3 : Int32) (σ : zS), zK X WC (zrm d) M_X5_arrange (zZ X WC zeV) 10 [some (.ref a0), some (.ref x1), some (.int x2), some (.int x3), none, none] [] σ (H10 x1 x2 x3 σ)) : ∀ (n : Nat) (x1 : Nat) (x2 : Int32) (x3 : Int32) (x4 : Int32) (σ : zS), zK X WC (zrm d) M_X5_arrange (zZ X WC zeV) 28 [some (.ref a0), some (.ref x1), some (.int x2), some (.int x3), some (.int x4), none] [] σ (f_X5_arrange_28 a0 H10 n x1 x2 x3 x4 σ) := by
  intro n
  induction n with
  | zero => intro x1 x2 x3 x4 σ; exact z_none
  | succ n ih =>
    intro x1 x2 x3 x4 σ
    rw [f_X5_arrange_28]
    refine z_iload4 17 30 rfl rfl ?_
    refine z_aload0 18 31 rfl rfl ?_
    refine z_getI 19 34 1 rfl rfl zf_X5_21 rfl h0 ?_
    refine z_icmp_ge 20 37 72 rfl rfl (by decide) ?_ ?_
    · refine z_iinc3 42 75 rfl rfl ci_1 rfl (fun v8 => ?_)
      refine z_goto 43 10 rfl (by decide) ?_
      exact z_wk (zle_e (zle_e (zle_e (zle_e (zle_n (zle_e zle_0)))))) (hH10 x1 x2 v8 σ)
    · refine z_aload1 21 38 rfl rfl ?_
      refine z_ck (fun h9 => ?_)
      refine z_getR 22 41 0 rfl rfl zf_X5_24 rfl h9 ?_
      refine z_iload3 23 42 rfl rfl ?_
      refine z_iald 24 43 rfl rfl ?_
      refine z_aload1 25 44 rfl rfl ?_
      refine z_getR 26 47 0 rfl rfl zf_X5_24 rfl h9 ?_
      refine z_iload4 27 49 rfl rfl ?_
      refine z_iald 28 50 rfl rfl ?_
      refine z_icmp_le 29 53 66 rfl rfl (by decide) ?_ ?_
      · exact t_X5_arrange_66 X d a0 h0 H10 hH10 (f_X5_arrange_28 a0 H10 n) ih x1 x2 x3 x4 σ
      · refine z_aload0 30 54 rfl rfl ?_
        refine z_getR 31 57 0 rfl rfl zf_X5_9 rfl h0 ?_
        refine z_iload3 32 58 rfl rfl ?_
        refine z_dup2 33 59 rfl rfl rfl rfl ?_
        refine z_iald 34 60 rfl rfl ?_
        refine z_iconst 35 61 rfl rfl ci_1 ?_
        refine z_iload4 36 63 rfl rfl ?_
        refine z_ishl 37 64 rfl rfl ?_
        refine z_ior 38 65 rfl rfl ?_
        refine z_iast 39 66 rfl rfl (fun σ10 => ?_)
        exact t_X5_arrange_66 X d a0 h0 H10 hH10 (f_X5_arrange_28 a0 H10 n) ih x1 x2 x3 x4 σ10
def f_X5_arrange_10 (a0 : Nat) : Nat → Nat → Int32 → Int32 → zS → Option (Unit × zS)
  | 0, _, _, _, _ => none
  | n + 1, x1, x2, x3, σ => zbr ((σ.1 a0 1) ≤ x3) (zlt (0 : Int32) (fun v11 => f_X5_arrange_80 a0 FU x1 x2 v11 σ)) (zck (zok 100 (WC.2 (σ.2 a0 0)) x3) (zlt (zpi σ (σ.2 a0 0) x3.toNatClampNeg (0 : Int32)) (fun σ12 => zlt (0 : Int32) (fun v13 => f_X5_arrange_28 a0 (f_X5_arrange_10 a0 n) FU x1 x2 x3 v13 σ12))))
theorem t_X5_arrange_10 (X : zX) (d : Nat) (a0 : Nat) (h0 : WC.2 a0 = (5, 0)) : ∀ (n : Nat) (x1 : Nat) (x2 : Int32) (x3 : Int32) (σ : zS), zK X WC (zrm d) M_X5_arrange (zZ X WC zeV) 10 [some (.ref a0), some (.ref x1), some (.int x2), some (.int x3), none, none] [] σ (f_X5_arrange_10 a0 n x1 x2 x3 σ) := by
  intro n
  induction n with
  | zero => intro x1 x2 x3 σ; exact z_none
  | succ n ih =>
    intro x1 x2 x3 σ
    rw [f_X5_arrange_10]
    refine z_iload3 6 11 rfl rfl ?_
    refine z_aload0 7 12 rfl rfl ?_
    refine z_getI 8 15 1 rfl rfl zf_X5_21 rfl h0 ?_
    refine z_icmp_ge 9 18 78 rfl rfl (by decide) ?_ ?_
    · refine z_iconst 44 79 rfl rfl ci_0 ?_
      refine z_istore3 45 80 rfl rfl rfl (fun v11 => ?_)
      exact t_X5_arrange_80 X d a0 h0  FU x1 x2 v11 σ
    · refine z_aload0 10 19 rfl rfl ?_
      refine z_getR 11 22 0 rfl rfl zf_X5_9 rfl h0 ?_
      refine z_iload3 12 23 rfl rfl ?_
      refine z_iconst 13 24 rfl rfl ci_0 ?_
      refine z_iast 14 25 rfl rfl (fun σ12 => ?_)
      refine z_iconst 15 26 rfl rfl ci_0 ?_
      refine z_istore4 16 28 rfl rfl rfl (fun v13 => ?_)
      exact t_X5_arrange_28 X d a0 h0 (f_X5_arrange_10 a0 n) ih FU x1 x2 x3 v13 σ12
def f_X5_arrange (a0 : Nat) (x1 : Nat) (x2 : Int32) (σ : zS) : Option (Unit × zS) := zck (WC.2 a0 = (5, 0)) (zck (WC.2 x1 = (3, 0)) (zlt (zpi σ a0 1 (σ.1 x1 10)) (fun σ15 => zlt (0 : Int32) (fun v16 => f_X5_arrange_10 a0 FU x1 x2 v16 σ15))))
theorem c_X5_arrange (X : zX) (d : Nat) (a0 : Nat) (x1 : Nat) (x2 : Int32) (σ : zS) : ∀ (r : Unit) (σ' : zS), f_X5_arrange a0 x1 x2 σ = some (r, σ') → zCN X WC d M_X5_arrange [.ref a0, .ref x1, .int x2] σ (zeV r, σ') := by
  refine z_entry [.ref a0, .ref x1, .int x2] (by decide +kernel) T_X5_arrange (Nat.le_of_ble_eq_true rfl) ?_
  show zK X WC (zrm d) M_X5_arrange (zZ X WC zeV) 0 [some (.ref a0), some (.ref x1), some (.int x2), none, none, none] [] σ (f_X5_arrange a0 x1 x2 σ)
  unfold f_X5_arrange
  refine z_ck (fun h0 => ?_)
  refine z_aload0 0 1 rfl rfl ?_
  refine z_aload1 1 2 rfl rfl ?_
  refine z_ck (fun h14 => ?_)
  refine z_getI 2 5 10 rfl rfl zf_X5_15 rfl h14 ?_
  refine z_putI 3 8 1 rfl rfl zf_X5_21 rfl rfl rfl h0 (fun σ15 => ?_)
  refine z_iconst 4 9 rfl rfl ci_0 ?_
  refine z_istore3 5 10 rfl rfl rfl (fun v16 => ?_)
  exact t_X5_arrange_10 X d a0 h0  FU x1 x2 v16 σ15
def f_X5_thirdOfRing_40 (a0 : Nat) (H2 : Int32 → Int32 → Int32 → zS → Option (Int32 × zS)) (x1 : Int32) (x2 : Int32) (x3 : Int32) (σ : zS) : Option (Int32 × zS) := zlt (x3 + (1 : Int32)) (fun v1 => H2 x1 x2 v1 σ)
theorem t_X5_thirdOfRing_40 (X : zX) (d : Nat) (a0 : Nat) (h0 : WC.2 a0 = (5, 0)) (H2 : Int32 → Int32 → Int32 → zS → Option (Int32 × zS)) (hH2 : ∀ (x1 : Int32) (x2 : Int32) (x3 : Int32) (σ : zS), zK X WC (zrm d) M_X5_thirdOfRing (zZ X WC zeI) 2 [some (.ref a0), some (.int x1), some (.int x2), some (.int x3)] [] σ (H2 x1 x2 x3 σ)) (x1 : Int32) (x2 : Int32) (x3 : Int32) (σ : zS) : zK X WC (zrm d) M_X5_thirdOfRing (zZ X WC zeI) 40 [some (.ref a0), some (.int x1), some (.int x2), some (.int x3)] [] σ (f_X5_thirdOfRing_40 a0 H2 x1 x2 x3 σ) := by
  unfold f_X5_thirdOfRing_40
  refine z_iinc3 28 43 rfl rfl ci_1 rfl (fun v1 => ?_)
  refine z_goto 29 2 rfl (by decide) ?_
  exact hH2 x1 x2 v1 σ
def f_X5_thirdOfRing_2 (a0 : Nat) : Nat → Int32 → Int32 → Int32 → zS → Option (Int32 × zS)
  | 0, _, _, _, _ => none
  | n + 1, x1, x2, x3, σ => zbr ((σ.1 a0 1) ≤ x3) (some ((-1 : Int32), σ)) (zck (zok 100 (WC.2 (σ.2 a0 0)) x2) (zbr ((((σ.1 (σ.2 a0 0) x2.toNatClampNeg) >>> (x3 &&& 31)) &&& (1 : Int32)) = (1 : Int32)) (zck (zok 100 (WC.2 (σ.2 a0 0)) x3) (zbr ((((σ.1 (σ.2 a0 0) x3.toNatClampNeg) >>> (x1 &&& 31)) &&& (1 : Int32)) = (1 : Int32)) (some (x3, σ)) (f_X5_thirdOfRing_40 a0 (f_X5_thirdOfRing_2 a0 n) x1 x2 x3 σ))) (f_X5_thirdOfRing_40 a0 (f_X5_thirdOfRing_2 a0 n) x1 x2 x3 σ)))
theorem t_X5_thirdOfRing_2 (X : zX) (d : Nat) (a0 : Nat) (h0 : WC.2 a0 = (5, 0)) : ∀ (n : Nat) (x1 : Int32) (x2 : Int32) (x3 : Int32) (σ : zS), zK X WC (zrm d) M_X5_thirdOfRing (zZ X WC zeI) 2 [some (.ref a0), some (.int x1), some (.int x2), some (.int x3)] [] σ (f_X5_thirdOfRing_2 a0 n x1 x2 x3 σ) := by
  intro n
  induction n with
  | zero => intro x1 x2 x3 σ; exact z_none
  | succ n ih =>
    intro x1 x2 x3 σ
    rw [f_X5_thirdOfRing_2]
    refine z_iload3 2 3 rfl rfl ?_
    refine z_aload0 3 4 rfl rfl ?_
    refine z_getI 4 7 1 rfl rfl zf_X5_21 rfl h0 ?_
    refine z_icmp_ge 5 10 46 rfl rfl (by decide) ?_ ?_
    · refine z_iconst 30 47 rfl rfl ci_m1 ?_
      exact z_iret 31 rfl rfl
    · refine z_aload0 6 11 rfl rfl ?_
      refine z_getR 7 14 0 rfl rfl zf_X5_9 rfl h0 ?_
      refine z_iload2 8 15 rfl rfl ?_
      refine z_iald 9 16 rfl rfl ?_
      refine z_iload3 10 17 rfl rfl ?_
      refine z_ishr 11 18 rfl rfl ?_
      refine z_iconst 12 19 rfl rfl ci_1 ?_
      refine z_iand 13 20 rfl rfl ?_
      refine z_iconst 14 21 rfl rfl ci_1 ?_
      refine z_icmp_ne 15 24 40 rfl rfl (by decide) ?_ ?_
      · refine z_aload0 16 25 rfl rfl ?_
        refine z_getR 17 28 0 rfl rfl zf_X5_9 rfl h0 ?_
        refine z_iload3 18 29 rfl rfl ?_
        refine z_iald 19 30 rfl rfl ?_
        refine z_iload1 20 31 rfl rfl ?_
        refine z_ishr 21 32 rfl rfl ?_
        refine z_iconst 22 33 rfl rfl ci_1 ?_
        refine z_iand 23 34 rfl rfl ?_
        refine z_iconst 24 35 rfl rfl ci_1 ?_
        refine z_icmp_ne 25 38 40 rfl rfl (by decide) ?_ ?_
        · refine z_iload3 26 39 rfl rfl ?_
          exact z_iret 27 rfl rfl
        · exact t_X5_thirdOfRing_40 X d a0 h0 (f_X5_thirdOfRing_2 a0 n) ih x1 x2 x3 σ
      · exact t_X5_thirdOfRing_40 X d a0 h0 (f_X5_thirdOfRing_2 a0 n) ih x1 x2 x3 σ
def f_X5_thirdOfRing (a0 : Nat) (x1 : Int32) (x2 : Int32) (σ : zS) : Option (Int32 × zS) := zck (WC.2 a0 = (5, 0)) (zlt (0 : Int32) (fun v2 => f_X5_thirdOfRing_2 a0 FU x1 x2 v2 σ))
theorem c_X5_thirdOfRing (X : zX) (d : Nat) (a0 : Nat) (x1 : Int32) (x2 : Int32) (σ : zS) : ∀ (r : Int32) (σ' : zS), f_X5_thirdOfRing a0 x1 x2 σ = some (r, σ') → zCN X WC d M_X5_thirdOfRing [.ref a0, .int x1, .int x2] σ (zeI r, σ') := by
  refine z_entry [.ref a0, .int x1, .int x2] (by decide +kernel) T_X5_thirdOfRing (Nat.le_of_ble_eq_true rfl) ?_
  show zK X WC (zrm d) M_X5_thirdOfRing (zZ X WC zeI) 0 [some (.ref a0), some (.int x1), some (.int x2), none] [] σ (f_X5_thirdOfRing a0 x1 x2 σ)
  unfold f_X5_thirdOfRing
  refine z_ck (fun h0 => ?_)
  refine z_iconst 0 1 rfl rfl ci_0 ?_
  refine z_istore3 1 2 rfl rfl rfl (fun v2 => ?_)
  exact t_X5_thirdOfRing_2 X d a0 h0  FU x1 x2 v2 σ
def f_X5_secondOfRing_36 (a0 : Nat) (H2 : Int32 → Int32 → zS → Option (Int32 × zS)) (x1 : Int32) (x2 : Int32) (σ : zS) : Option (Int32 × zS) := zlt (x2 + (1 : Int32)) (fun v1 => H2 x1 v1 σ)
theorem t_X5_secondOfRing_36 (X : zX) (d : Nat) (hd : 1 ≤ d + 1) (a0 : Nat) (h0 : WC.2 a0 = (5, 0)) (H2 : Int32 → Int32 → zS → Option (Int32 × zS)) (hH2 : ∀ (x1 : Int32) (x2 : Int32) (σ : zS), zK X WC (zrm (d + 1)) M_X5_secondOfRing (zZ X WC zeI) 2 [some (.ref a0), some (.int x1), some (.int x2)] [] σ (H2 x1 x2 σ)) (x1 : Int32) (x2 : Int32) (σ : zS) : zK X WC (zrm (d + 1)) M_X5_secondOfRing (zZ X WC zeI) 36 [some (.ref a0), some (.int x1), some (.int x2)] [] σ (f_X5_secondOfRing_36 a0 H2 x1 x2 σ) := by
  unfold f_X5_secondOfRing_36
  refine z_iinc2 24 39 rfl rfl ci_1 rfl (fun v1 => ?_)
  refine z_goto 25 2 rfl (by decide) ?_
  exact hH2 x1 v1 σ
def f_X5_secondOfRing_2 (a0 : Nat) : Nat → Int32 → Int32 → zS → Option (Int32 × zS)
  | 0, _, _, _ => none
  | n + 1, x1, x2, σ => zbr ((σ.1 a0 1) ≤ x2) (some ((-1 : Int32), σ)) (zck (zok 100 (WC.2 (σ.2 a0 0)) x1) (zbr ((((σ.1 (σ.2 a0 0) x1.toNatClampNeg) >>> (x2 &&& 31)) &&& (1 : Int32)) = (1 : Int32)) (zbd (f_X5_thirdOfRing a0 x1 x2 σ) (fun r2 σ3 => zbr (r2 = (-1 : Int32)) (f_X5_secondOfRing_36 a0 (f_X5_secondOfRing_2 a0 n) x1 x2 σ3) (some (x2, σ3)))) (f_X5_secondOfRing_36 a0 (f_X5_secondOfRing_2 a0 n) x1 x2 σ)))
theorem t_X5_secondOfRing_2 (X : zX) (d : Nat) (hd : 1 ≤ d + 1) (a0 : Nat) (h0 : WC.2 a0 = (5, 0)) : ∀ (n : Nat) (x1 : Int32) (x2 : Int32) (σ : zS), zK X WC (zrm (d + 1)) M_X5_secondOfRing (zZ X WC zeI) 2 [some (.ref a0), some (.int x1), some (.int x2)] [] σ (f_X5_secondOfRing_2 a0 n x1 x2 σ) := by
  intro n
  induction n with
  | zero => intro x1 x2 σ; exact z_none
  | succ n ih =>
    intro x1 x2 σ
    rw [f_X5_secondOfRing_2]
    refine z_iload2 2 3 rfl rfl ?_
    refine z_aload0 3 4 rfl rfl ?_
    refine z_getI 4 7 1 rfl rfl zf_X5_21 rfl h0 ?_
    refine z_icmp_ge 5 10 42 rfl rfl (by decide) ?_ ?_
    · refine z_iconst 26 43 rfl rfl ci_m1 ?_
      exact z_iret 27 rfl rfl
    · refine z_aload0 6 11 rfl rfl ?_
      refine z_getR 7 14 0 rfl rfl zf_X5_9 rfl h0 ?_
      refine z_iload1 8 15 rfl rfl ?_
      refine z_iald 9 16 rfl rfl ?_
      refine z_iload2 10 17 rfl rfl ?_
      refine z_ishr 11 18 rfl rfl ?_
      refine z_iconst 12 19 rfl rfl ci_1 ?_
      refine z_iand 13 20 rfl rfl ?_
      refine z_iconst 14 21 rfl rfl ci_1 ?_
      refine z_icmp_ne 15 24 36 rfl rfl (by decide) ?_ ?_
      · refine z_aload0 16 25 rfl rfl ?_
        refine z_iload1 17 26 rfl rfl ?_
        refine z_iload2 18 27 rfl rfl ?_
        refine z_cV2I 19 30 rfl rfl zl_X5_40 F_X5_thirdOfRing (zR_rm (by omega)) (c_X5_thirdOfRing X d a0 x1 x2 σ) ⟨by decide, rfl, rfl⟩ h0 rfl (Nat.le_of_ble_eq_true rfl) (fun r2 σ3 => ?_)
        refine z_iconst 20 31 rfl rfl ci_m1 ?_
        refine z_icmp_eq 21 34 36 rfl rfl (by decide) ?_ ?_
        · exact t_X5_secondOfRing_36 X d hd a0 h0 (f_X5_secondOfRing_2 a0 n) ih x1 x2 σ3
        · refine z_iload2 22 35 rfl rfl ?_
          exact z_iret 23 rfl rfl
      · exact t_X5_secondOfRing_36 X d hd a0 h0 (f_X5_secondOfRing_2 a0 n) ih x1 x2 σ
def f_X5_secondOfRing (a0 : Nat) (x1 : Int32) (σ : zS) : Option (Int32 × zS) := zck (WC.2 a0 = (5, 0)) (zlt (0 : Int32) (fun v4 => f_X5_secondOfRing_2 a0 FU x1 v4 σ))
theorem c_X5_secondOfRing (X : zX) (d : Nat) (hd : 1 ≤ d) (a0 : Nat) (x1 : Int32) (σ : zS) : ∀ (r : Int32) (σ' : zS), f_X5_secondOfRing a0 x1 σ = some (r, σ') → zCN X WC d M_X5_secondOfRing [.ref a0, .int x1] σ (zeI r, σ') := by
  obtain ⟨d, rfl⟩ : ∃ e, d = e + 1 := ⟨d - 1, by omega⟩
  refine z_entry [.ref a0, .int x1] (by decide +kernel) T_X5_secondOfRing (Nat.le_of_ble_eq_true rfl) ?_
  show zK X WC (zrm (d + 1)) M_X5_secondOfRing (zZ X WC zeI) 0 [some (.ref a0), some (.int x1), none] [] σ (f_X5_secondOfRing a0 x1 σ)
  unfold f_X5_secondOfRing
  refine z_ck (fun h0 => ?_)
  refine z_iconst 0 1 rfl rfl ci_0 ?_
  refine z_istore2 1 2 rfl rfl rfl (fun v4 => ?_)
  exact t_X5_secondOfRing_2 X d hd a0 h0  FU x1 v4 σ
def f_X5_hasRing_2 (a0 : Nat) : Nat → Int32 → zS → Option (Int32 × zS)
  | 0, _, _ => none
  | n + 1, x1, σ => zbr ((σ.1 a0 1) ≤ x1) (zck (zb (0 : Int32)) (some ((0 : Int32), σ))) (zbd (f_X5_secondOfRing a0 x1 σ) (fun r1 σ2 => zbr (r1 = (-1 : Int32)) (zlt (x1 + (1 : Int32)) (fun v3 => f_X5_hasRing_2 a0 n v3 σ2)) (zck (zb (1 : Int32)) (some ((1 : Int32), σ2)))))
theorem t_X5_hasRing_2 (X : zX) (d : Nat) (hd : 2 ≤ d + 1) (a0 : Nat) (h0 : WC.2 a0 = (5, 0)) : ∀ (n : Nat) (x1 : Int32) (σ : zS), zK X WC (zrm (d + 1)) M_X5_hasRing (zZ X WC zeI) 2 [some (.ref a0), some (.int x1)] [] σ (f_X5_hasRing_2 a0 n x1 σ) := by
  intro n
  induction n with
  | zero => intro x1 σ; exact z_none
  | succ n ih =>
    intro x1 σ
    rw [f_X5_hasRing_2]
    refine z_iload1 2 3 rfl rfl ?_
    refine z_aload0 3 4 rfl rfl ?_
    refine z_getI 4 7 1 rfl rfl zf_X5_21 rfl h0 ?_
    refine z_icmp_ge 5 10 27 rfl rfl (by decide) ?_ ?_
    · refine z_iconst 15 28 rfl rfl ci_0 ?_
      exact z_zret 16 rfl rfl
    · refine z_aload0 6 11 rfl rfl ?_
      refine z_iload1 7 12 rfl rfl ?_
      refine z_cV1I 8 15 rfl rfl zl_X5_44 F_X5_secondOfRing (zR_rm (by omega)) (c_X5_secondOfRing X d (by omega) a0 x1 σ) ⟨by decide, rfl, rfl⟩ h0 rfl (Nat.le_of_ble_eq_true rfl) (fun r1 σ2 => ?_)
      refine z_iconst 9 16 rfl rfl ci_m1 ?_
      refine z_icmp_eq 10 19 21 rfl rfl (by decide) ?_ ?_
      · refine z_iinc1 13 24 rfl rfl ci_1 rfl (fun v3 => ?_)
        refine z_goto 14 2 rfl (by decide) ?_
        exact ih v3 σ2
      · refine z_iconst 11 20 rfl rfl ci_1 ?_
        exact z_zret 12 rfl rfl
def f_X5_hasRing (a0 : Nat) (σ : zS) : Option (Int32 × zS) := zck (WC.2 a0 = (5, 0)) (zlt (0 : Int32) (fun v4 => f_X5_hasRing_2 a0 FU v4 σ))
theorem c_X5_hasRing (X : zX) (d : Nat) (hd : 2 ≤ d) (a0 : Nat) (σ : zS) : ∀ (r : Int32) (σ' : zS), f_X5_hasRing a0 σ = some (r, σ') → zCN X WC d M_X5_hasRing [.ref a0] σ (zeI r, σ') := by
  obtain ⟨d, rfl⟩ : ∃ e, d = e + 1 := ⟨d - 1, by omega⟩
  refine z_entry [.ref a0] (by decide +kernel) T_X5_hasRing (Nat.le_of_ble_eq_true rfl) ?_
  show zK X WC (zrm (d + 1)) M_X5_hasRing (zZ X WC zeI) 0 [some (.ref a0), none] [] σ (f_X5_hasRing a0 σ)
  unfold f_X5_hasRing
  refine z_ck (fun h0 => ?_)
  refine z_iconst 0 1 rfl rfl ci_0 ?_
  refine z_istore1 1 2 rfl rfl rfl (fun v4 => ?_)
  exact t_X5_hasRing_2 X d hd a0 h0  FU v4 σ
def f_X6_copyFrom_2 (a0 : Nat) : Nat → Nat → Int32 → zS → Option (Unit × zS)
  | 0, _, _, _ => none
  | n + 1, x1, x2, σ => zck (WC.2 x1 = (6, 0)) (zbr ((σ.1 x1 5) ≤ x2) (zlt (zpi σ a0 5 (σ.1 x1 5)) (fun σ2 => zlt (zpi σ2 a0 6 (σ2.1 x1 6)) (fun σ3 => zlt (zpi σ3 a0 7 (σ3.1 x1 7)) (fun σ4 => some ((), σ4))))) (zck (zok 100 (WC.2 (σ.2 x1 0)) x2) (zck (zok 100 (WC.2 (σ.2 a0 0)) x2) (zlt (zpi σ (σ.2 a0 0) x2.toNatClampNeg (σ.1 (σ.2 x1 0) x2.toNatClampNeg)) (fun σ5 => zck (zok 100 (WC.2 (σ5.2 x1 1)) x2) (zck (zok 100 (WC.2 (σ5.2 a0 1)) x2) (zlt (zpi σ5 (σ5.2 a0 1) x2.toNatClampNeg (σ5.1 (σ5.2 x1 1) x2.toNatClampNeg)) (fun σ6 => zck (zok 100 (WC.2 (σ6.2 x1 2)) x2) (zck (zok 100 (WC.2 (σ6.2 a0 2)) x2) (zlt (zpi σ6 (σ6.2 a0 2) x2.toNatClampNeg (σ6.1 (σ6.2 x1 2) x2.toNatClampNeg)) (fun σ7 => zck (zok 100 (WC.2 (σ7.2 x1 3)) x2) (zck (zok 100 (WC.2 (σ7.2 a0 3)) x2) (zlt (zpi σ7 (σ7.2 a0 3) x2.toNatClampNeg (σ7.1 (σ7.2 x1 3) x2.toNatClampNeg)) (fun σ8 => zck (zok 100 (WC.2 (σ8.2 x1 4)) x2) (zck (zok 100 (WC.2 (σ8.2 a0 4)) x2) (zlt (zpi σ8 (σ8.2 a0 4) x2.toNatClampNeg (σ8.1 (σ8.2 x1 4) x2.toNatClampNeg)) (fun σ9 => zlt (x2 + (1 : Int32)) (fun v10 => f_X6_copyFrom_2 a0 n x1 v10 σ9))))))))))))))))))
theorem t_X6_copyFrom_2 (X : zX) (d : Nat) (a0 : Nat) (h0 : WC.2 a0 = (6, 0)) : ∀ (n : Nat) (x1 : Nat) (x2 : Int32) (σ : zS), zK X WC (zrm d) M_X6_copyFrom (zZ X WC zeV) 2 [some (.ref a0), some (.ref x1), some (.int x2)] [] σ (f_X6_copyFrom_2 a0 n x1 x2 σ) := by
  intro n
  induction n with
  | zero => intro x1 x2 σ; exact z_none
  | succ n ih =>
    intro x1 x2 σ
    rw [f_X6_copyFrom_2]
    refine z_iload2 2 3 rfl rfl ?_
    refine z_aload1 3 4 rfl rfl ?_
    refine z_ck (fun h1 => ?_)
    refine z_getI 4 7 5 rfl rfl zf_X6_27 rfl h1 ?_
    refine z_icmp_ge 5 10 76 rfl rfl (by decide) ?_ ?_
    · refine z_aload0 48 77 rfl rfl ?_
      refine z_aload1 49 78 rfl rfl ?_
      refine z_getI 50 81 5 rfl rfl zf_X6_27 rfl h1 ?_
      refine z_putI 51 84 5 rfl rfl zf_X6_27 rfl rfl rfl h0 (fun σ2 => ?_)
      refine z_aload0 52 85 rfl rfl ?_
      refine z_aload1 53 86 rfl rfl ?_
      refine z_getI 54 89 6 rfl rfl zf_X6_31 rfl h1 ?_
      refine z_putI 55 92 6 rfl rfl zf_X6_31 rfl rfl rfl h0 (fun σ3 => ?_)
      refine z_aload0 56 93 rfl rfl ?_
      refine z_aload1 57 94 rfl rfl ?_
      refine z_getI 58 97 7 rfl rfl zf_X6_34 rfl h1 ?_
      refine z_putI 59 100 7 rfl rfl zf_X6_34 rfl rfl rfl h0 (fun σ4 => ?_)
      exact z_vret 60 rfl rfl
    · refine z_aload0 6 11 rfl rfl ?_
      refine z_getR 7 14 0 rfl rfl zf_X6_9 rfl h0 ?_
      refine z_iload2 8 15 rfl rfl ?_
      refine z_aload1 9 16 rfl rfl ?_
      refine z_getR 10 19 0 rfl rfl zf_X6_9 rfl h1 ?_
      refine z_iload2 11 20 rfl rfl ?_
      refine z_iald 12 21 rfl rfl ?_
      refine z_iast 13 22 rfl rfl (fun σ5 => ?_)
      refine z_aload0 14 23 rfl rfl ?_
      refine z_getR 15 26 1 rfl rfl zf_X6_15 rfl h0 ?_
      refine z_iload2 16 27 rfl rfl ?_
      refine z_aload1 17 28 rfl rfl ?_
      refine z_getR 18 31 1 rfl rfl zf_X6_15 rfl h1 ?_
      refine z_iload2 19 32 rfl rfl ?_
      refine z_iald 20 33 rfl rfl ?_
      refine z_iast 21 34 rfl rfl (fun σ6 => ?_)
      refine z_aload0 22 35 rfl rfl ?_
      refine z_getR 23 38 2 rfl rfl zf_X6_18 rfl h0 ?_
      refine z_iload2 24 39 rfl rfl ?_
      refine z_aload1 25 40 rfl rfl ?_
      refine z_getR 26 43 2 rfl rfl zf_X6_18 rfl h1 ?_
      refine z_iload2 27 44 rfl rfl ?_
      refine z_iald 28 45 rfl rfl ?_
      refine z_iast 29 46 rfl rfl (fun σ7 => ?_)
      refine z_aload0 30 47 rfl rfl ?_
      refine z_getR 31 50 3 rfl rfl zf_X6_21 rfl h0 ?_
      refine z_iload2 32 51 rfl rfl ?_
      refine z_aload1 33 52 rfl rfl ?_
      refine z_getR 34 55 3 rfl rfl zf_X6_21 rfl h1 ?_
      refine z_iload2 35 56 rfl rfl ?_
      refine z_iald 36 57 rfl rfl ?_
      refine z_iast 37 58 rfl rfl (fun σ8 => ?_)
      refine z_aload0 38 59 rfl rfl ?_
      refine z_getR 39 62 4 rfl rfl zf_X6_24 rfl h0 ?_
      refine z_iload2 40 63 rfl rfl ?_
      refine z_aload1 41 64 rfl rfl ?_
      refine z_getR 42 67 4 rfl rfl zf_X6_24 rfl h1 ?_
      refine z_iload2 43 68 rfl rfl ?_
      refine z_iald 44 69 rfl rfl ?_
      refine z_iast 45 70 rfl rfl (fun σ9 => ?_)
      refine z_iinc2 46 73 rfl rfl ci_1 rfl (fun v10 => ?_)
      refine z_goto 47 2 rfl (by decide) ?_
      exact ih x1 v10 σ9
def f_X6_copyFrom (a0 : Nat) (x1 : Nat) (σ : zS) : Option (Unit × zS) := zck (WC.2 a0 = (6, 0)) (zlt (0 : Int32) (fun v11 => f_X6_copyFrom_2 a0 FU x1 v11 σ))
theorem c_X6_copyFrom (X : zX) (d : Nat) (a0 : Nat) (x1 : Nat) (σ : zS) : ∀ (r : Unit) (σ' : zS), f_X6_copyFrom a0 x1 σ = some (r, σ') → zCN X WC d M_X6_copyFrom [.ref a0, .ref x1] σ (zeV r, σ') := by
  refine z_entry [.ref a0, .ref x1] (by decide +kernel) T_X6_copyFrom (Nat.le_of_ble_eq_true rfl) ?_
  show zK X WC (zrm d) M_X6_copyFrom (zZ X WC zeV) 0 [some (.ref a0), some (.ref x1), none] [] σ (f_X6_copyFrom a0 x1 σ)
  unfold f_X6_copyFrom
  refine z_ck (fun h0 => ?_)
  refine z_iconst 0 1 rfl rfl ci_0 ?_
  refine z_istore2 1 2 rfl rfl rfl (fun v11 => ?_)
  exact t_X6_copyFrom_2 X d a0 h0  FU x1 v11 σ
def f_X6_add (a0 : Nat) (x1 : Int32) (x2 : Int32) (x3 : Int32) (x4 : Int32) (x5 : Int32) (σ : zS) : Option (Unit × zS) := zck (WC.2 a0 = (6, 0)) (zbr ((σ.1 a0 5) < (8 : Int32)) (zck (zok 100 (WC.2 (σ.2 a0 0)) (σ.1 a0 5)) (zlt (zpi σ (σ.2 a0 0) (σ.1 a0 5).toNatClampNeg x1) (fun σ1 => zck (zok 100 (WC.2 (σ1.2 a0 1)) (σ1.1 a0 5)) (zlt (zpi σ1 (σ1.2 a0 1) (σ1.1 a0 5).toNatClampNeg x2) (fun σ2 => zck (zok 100 (WC.2 (σ2.2 a0 2)) (σ2.1 a0 5)) (zlt (zpi σ2 (σ2.2 a0 2) (σ2.1 a0 5).toNatClampNeg x3) (fun σ3 => zck (zok 100 (WC.2 (σ3.2 a0 3)) (σ3.1 a0 5)) (zlt (zpi σ3 (σ3.2 a0 3) (σ3.1 a0 5).toNatClampNeg x4) (fun σ4 => zck (zok 100 (WC.2 (σ4.2 a0 4)) (σ4.1 a0 5)) (zlt (zpi σ4 (σ4.2 a0 4) (σ4.1 a0 5).toNatClampNeg x5) (fun σ5 => zlt (zpi σ5 a0 5 ((σ5.1 a0 5) + (1 : Int32))) (fun σ6 => some ((), σ6))))))))))))) (some ((), σ)))
theorem c_X6_add (X : zX) (d : Nat) (a0 : Nat) (x1 : Int32) (x2 : Int32) (x3 : Int32) (x4 : Int32) (x5 : Int32) (σ : zS) : ∀ (r : Unit) (σ' : zS), f_X6_add a0 x1 x2 x3 x4 x5 σ = some (r, σ') → zCN X WC d M_X6_add [.ref a0, .int x1, .int x2, .int x3, .int x4, .int x5] σ (zeV r, σ') := by
  refine z_entry [.ref a0, .int x1, .int x2, .int x3, .int x4, .int x5] (by decide +kernel) T_X6_add (Nat.le_of_ble_eq_true rfl) ?_
  show zK X WC (zrm d) M_X6_add (zZ X WC zeV) 0 [some (.ref a0), some (.int x1), some (.int x2), some (.int x3), some (.int x4), some (.int x5)] [] σ (f_X6_add a0 x1 x2 x3 x4 x5 σ)
  unfold f_X6_add
  refine z_ck (fun h0 => ?_)
  refine z_aload0 0 1 rfl rfl ?_
  refine z_getI 1 4 5 rfl rfl zf_X6_27 rfl h0 ?_
  refine z_bipush 2 6 rfl rfl cb_8 ?_
  refine z_icmp_lt 3 9 10 rfl rfl (by decide) ?_ ?_
  · refine z_aload0 5 11 rfl rfl ?_
    refine z_getR 6 14 0 rfl rfl zf_X6_9 rfl h0 ?_
    refine z_aload0 7 15 rfl rfl ?_
    refine z_getI 8 18 5 rfl rfl zf_X6_27 rfl h0 ?_
    refine z_iload1 9 19 rfl rfl ?_
    refine z_iast 10 20 rfl rfl (fun σ1 => ?_)
    refine z_aload0 11 21 rfl rfl ?_
    refine z_getR 12 24 1 rfl rfl zf_X6_15 rfl h0 ?_
    refine z_aload0 13 25 rfl rfl ?_
    refine z_getI 14 28 5 rfl rfl zf_X6_27 rfl h0 ?_
    refine z_iload2 15 29 rfl rfl ?_
    refine z_iast 16 30 rfl rfl (fun σ2 => ?_)
    refine z_aload0 17 31 rfl rfl ?_
    refine z_getR 18 34 2 rfl rfl zf_X6_18 rfl h0 ?_
    refine z_aload0 19 35 rfl rfl ?_
    refine z_getI 20 38 5 rfl rfl zf_X6_27 rfl h0 ?_
    refine z_iload3 21 39 rfl rfl ?_
    refine z_iast 22 40 rfl rfl (fun σ3 => ?_)
    refine z_aload0 23 41 rfl rfl ?_
    refine z_getR 24 44 3 rfl rfl zf_X6_21 rfl h0 ?_
    refine z_aload0 25 45 rfl rfl ?_
    refine z_getI 26 48 5 rfl rfl zf_X6_27 rfl h0 ?_
    refine z_iload4 27 50 rfl rfl ?_
    refine z_iast 28 51 rfl rfl (fun σ4 => ?_)
    refine z_aload0 29 52 rfl rfl ?_
    refine z_getR 30 55 4 rfl rfl zf_X6_24 rfl h0 ?_
    refine z_aload0 31 56 rfl rfl ?_
    refine z_getI 32 59 5 rfl rfl zf_X6_27 rfl h0 ?_
    refine z_iload5 33 61 rfl rfl ?_
    refine z_iast 34 62 rfl rfl (fun σ5 => ?_)
    refine z_aload0 35 63 rfl rfl ?_
    refine z_dup 36 64 rfl rfl rfl ?_
    refine z_getI 37 67 5 rfl rfl zf_X6_27 rfl h0 ?_
    refine z_iconst 38 68 rfl rfl ci_1 ?_
    refine z_iadd 39 69 rfl rfl ?_
    refine z_putI 40 72 5 rfl rfl zf_X6_27 rfl rfl rfl h0 (fun σ6 => ?_)
    exact z_vret 41 rfl rfl
  · exact z_vret 4 rfl rfl
def f_X6_linesAt_28 (a0 : Nat) (H4 : Int32 → Int32 → Int32 → zS → Option (Int32 × zS)) (x1 : Int32) (x2 : Int32) (x3 : Int32) (σ : zS) : Option (Int32 × zS) := zlt (x3 + (1 : Int32)) (fun v1 => H4 x1 x2 v1 σ)
theorem t_X6_linesAt_28 (X : zX) (d : Nat) (a0 : Nat) (h0 : WC.2 a0 = (6, 0)) (H4 : Int32 → Int32 → Int32 → zS → Option (Int32 × zS)) (hH4 : ∀ (x1 : Int32) (x2 : Int32) (x3 : Int32) (σ : zS), zK X WC (zrm d) M_X6_linesAt (zZ X WC zeI) 4 [some (.ref a0), some (.int x1), some (.int x2), some (.int x3)] [] σ (H4 x1 x2 x3 σ)) (x1 : Int32) (x2 : Int32) (x3 : Int32) (σ : zS) : zK X WC (zrm d) M_X6_linesAt (zZ X WC zeI) 28 [some (.ref a0), some (.int x1), some (.int x2), some (.int x3)] [] σ (f_X6_linesAt_28 a0 H4 x1 x2 x3 σ) := by
  unfold f_X6_linesAt_28
  refine z_iinc3 20 31 rfl rfl ci_1 rfl (fun v1 => ?_)
  refine z_goto 21 4 rfl (by decide) ?_
  exact hH4 x1 x2 v1 σ
def f_X6_linesAt_4 (a0 : Nat) : Nat → Int32 → Int32 → Int32 → zS → Option (Int32 × zS)
  | 0, _, _, _, _ => none
  | n + 1, x1, x2, x3, σ => zbr ((σ.1 a0 5) ≤ x3) (some (x2, σ)) (zck (zok 100 (WC.2 (σ.2 a0 1)) x3) (zbr ((σ.1 (σ.2 a0 1) x3.toNatClampNeg) = x1) (zlt (x2 ||| ((1 : Int32) <<< (x3 &&& 31))) (fun v2 => f_X6_linesAt_28 a0 (f_X6_linesAt_4 a0 n) x1 v2 x3 σ)) (f_X6_linesAt_28 a0 (f_X6_linesAt_4 a0 n) x1 x2 x3 σ)))
theorem t_X6_linesAt_4 (X : zX) (d : Nat) (a0 : Nat) (h0 : WC.2 a0 = (6, 0)) : ∀ (n : Nat) (x1 : Int32) (x2 : Int32) (x3 : Int32) (σ : zS), zK X WC (zrm d) M_X6_linesAt (zZ X WC zeI) 4 [some (.ref a0), some (.int x1), some (.int x2), some (.int x3)] [] σ (f_X6_linesAt_4 a0 n x1 x2 x3 σ) := by
  intro n
  induction n with
  | zero => intro x1 x2 x3 σ; exact z_none
  | succ n ih =>
    intro x1 x2 x3 σ
    rw [f_X6_linesAt_4]
    refine z_iload3 4 5 rfl rfl ?_
    refine z_aload0 5 6 rfl rfl ?_
    refine z_getI 6 9 5 rfl rfl zf_X6_27 rfl h0 ?_
    refine z_icmp_ge 7 12 34 rfl rfl (by decide) ?_ ?_
    · refine z_iload2 22 35 rfl rfl ?_
      exact z_iret 23 rfl rfl
    · refine z_aload0 8 13 rfl rfl ?_
      refine z_getR 9 16 1 rfl rfl zf_X6_15 rfl h0 ?_
      refine z_iload3 10 17 rfl rfl ?_
      refine z_iald 11 18 rfl rfl ?_
      refine z_iload1 12 19 rfl rfl ?_
      refine z_icmp_ne 13 22 28 rfl rfl (by decide) ?_ ?_
      · refine z_iload2 14 23 rfl rfl ?_
        refine z_iconst 15 24 rfl rfl ci_1 ?_
        refine z_iload3 16 25 rfl rfl ?_
        refine z_ishl 17 26 rfl rfl ?_
        refine z_ior 18 27 rfl rfl ?_
        refine z_istore2 19 28 rfl rfl rfl (fun v2 => ?_)
        exact t_X6_linesAt_28 X d a0 h0 (f_X6_linesAt_4 a0 n) ih x1 v2 x3 σ
      · exact t_X6_linesAt_28 X d a0 h0 (f_X6_linesAt_4 a0 n) ih x1 x2 x3 σ
def f_X6_linesAt (a0 : Nat) (x1 : Int32) (σ : zS) : Option (Int32 × zS) := zck (WC.2 a0 = (6, 0)) (zlt (0 : Int32) (fun v3 => zlt (0 : Int32) (fun v4 => f_X6_linesAt_4 a0 FU x1 v3 v4 σ)))
theorem c_X6_linesAt (X : zX) (d : Nat) (a0 : Nat) (x1 : Int32) (σ : zS) : ∀ (r : Int32) (σ' : zS), f_X6_linesAt a0 x1 σ = some (r, σ') → zCN X WC d M_X6_linesAt [.ref a0, .int x1] σ (zeI r, σ') := by
  refine z_entry [.ref a0, .int x1] (by decide +kernel) T_X6_linesAt (Nat.le_of_ble_eq_true rfl) ?_
  show zK X WC (zrm d) M_X6_linesAt (zZ X WC zeI) 0 [some (.ref a0), some (.int x1), none, none] [] σ (f_X6_linesAt a0 x1 σ)
  unfold f_X6_linesAt
  refine z_ck (fun h0 => ?_)
  refine z_iconst 0 1 rfl rfl ci_0 ?_
  refine z_istore2 1 2 rfl rfl rfl (fun v3 => ?_)
  refine z_iconst 2 3 rfl rfl ci_0 ?_
  refine z_istore3 3 4 rfl rfl rfl (fun v4 => ?_)
  exact t_X6_linesAt_4 X d a0 h0  FU x1 v3 v4 σ
def f_X6_linesBy_28 (a0 : Nat) (H4 : Int32 → Int32 → Int32 → zS → Option (Int32 × zS)) (x1 : Int32) (x2 : Int32) (x3 : Int32) (σ : zS) : Option (Int32 × zS) := zlt (x3 + (1 : Int32)) (fun v1 => H4 x1 x2 v1 σ)
theorem t_X6_linesBy_28 (X : zX) (d : Nat) (a0 : Nat) (h0 : WC.2 a0 = (6, 0)) (H4 : Int32 → Int32 → Int32 → zS → Option (Int32 × zS)) (hH4 : ∀ (x1 : Int32) (x2 : Int32) (x3 : Int32) (σ : zS), zK X WC (zrm d) M_X6_linesBy (zZ X WC zeI) 4 [some (.ref a0), some (.int x1), some (.int x2), some (.int x3)] [] σ (H4 x1 x2 x3 σ)) (x1 : Int32) (x2 : Int32) (x3 : Int32) (σ : zS) : zK X WC (zrm d) M_X6_linesBy (zZ X WC zeI) 28 [some (.ref a0), some (.int x1), some (.int x2), some (.int x3)] [] σ (f_X6_linesBy_28 a0 H4 x1 x2 x3 σ) := by
  unfold f_X6_linesBy_28
  refine z_iinc3 20 31 rfl rfl ci_1 rfl (fun v1 => ?_)
  refine z_goto 21 4 rfl (by decide) ?_
  exact hH4 x1 x2 v1 σ
def f_X6_linesBy_4 (a0 : Nat) : Nat → Int32 → Int32 → Int32 → zS → Option (Int32 × zS)
  | 0, _, _, _, _ => none
  | n + 1, x1, x2, x3, σ => zbr ((σ.1 a0 5) ≤ x3) (some (x2, σ)) (zck (zok 100 (WC.2 (σ.2 a0 0)) x3) (zbr ((σ.1 (σ.2 a0 0) x3.toNatClampNeg) = x1) (zlt (x2 ||| ((1 : Int32) <<< (x3 &&& 31))) (fun v2 => f_X6_linesBy_28 a0 (f_X6_linesBy_4 a0 n) x1 v2 x3 σ)) (f_X6_linesBy_28 a0 (f_X6_linesBy_4 a0 n) x1 x2 x3 σ)))
theorem t_X6_linesBy_4 (X : zX) (d : Nat) (a0 : Nat) (h0 : WC.2 a0 = (6, 0)) : ∀ (n : Nat) (x1 : Int32) (x2 : Int32) (x3 : Int32) (σ : zS), zK X WC (zrm d) M_X6_linesBy (zZ X WC zeI) 4 [some (.ref a0), some (.int x1), some (.int x2), some (.int x3)] [] σ (f_X6_linesBy_4 a0 n x1 x2 x3 σ) := by
  intro n
  induction n with
  | zero => intro x1 x2 x3 σ; exact z_none
  | succ n ih =>
    intro x1 x2 x3 σ
    rw [f_X6_linesBy_4]
    refine z_iload3 4 5 rfl rfl ?_
    refine z_aload0 5 6 rfl rfl ?_
    refine z_getI 6 9 5 rfl rfl zf_X6_27 rfl h0 ?_
    refine z_icmp_ge 7 12 34 rfl rfl (by decide) ?_ ?_
    · refine z_iload2 22 35 rfl rfl ?_
      exact z_iret 23 rfl rfl
    · refine z_aload0 8 13 rfl rfl ?_
      refine z_getR 9 16 0 rfl rfl zf_X6_9 rfl h0 ?_
      refine z_iload3 10 17 rfl rfl ?_
      refine z_iald 11 18 rfl rfl ?_
      refine z_iload1 12 19 rfl rfl ?_
      refine z_icmp_ne 13 22 28 rfl rfl (by decide) ?_ ?_
      · refine z_iload2 14 23 rfl rfl ?_
        refine z_iconst 15 24 rfl rfl ci_1 ?_
        refine z_iload3 16 25 rfl rfl ?_
        refine z_ishl 17 26 rfl rfl ?_
        refine z_ior 18 27 rfl rfl ?_
        refine z_istore2 19 28 rfl rfl rfl (fun v2 => ?_)
        exact t_X6_linesBy_28 X d a0 h0 (f_X6_linesBy_4 a0 n) ih x1 v2 x3 σ
      · exact t_X6_linesBy_28 X d a0 h0 (f_X6_linesBy_4 a0 n) ih x1 x2 x3 σ
def f_X6_linesBy (a0 : Nat) (x1 : Int32) (σ : zS) : Option (Int32 × zS) := zck (WC.2 a0 = (6, 0)) (zlt (0 : Int32) (fun v3 => zlt (0 : Int32) (fun v4 => f_X6_linesBy_4 a0 FU x1 v3 v4 σ)))
theorem c_X6_linesBy (X : zX) (d : Nat) (a0 : Nat) (x1 : Int32) (σ : zS) : ∀ (r : Int32) (σ' : zS), f_X6_linesBy a0 x1 σ = some (r, σ') → zCN X WC d M_X6_linesBy [.ref a0, .int x1] σ (zeI r, σ') := by
  refine z_entry [.ref a0, .int x1] (by decide +kernel) T_X6_linesBy (Nat.le_of_ble_eq_true rfl) ?_
  show zK X WC (zrm d) M_X6_linesBy (zZ X WC zeI) 0 [some (.ref a0), some (.int x1), none, none] [] σ (f_X6_linesBy a0 x1 σ)
  unfold f_X6_linesBy
  refine z_ck (fun h0 => ?_)
  refine z_iconst 0 1 rfl rfl ci_0 ?_
  refine z_istore2 1 2 rfl rfl rfl (fun v3 => ?_)
  refine z_iconst 2 3 rfl rfl ci_0 ?_
  refine z_istore3 3 4 rfl rfl rfl (fun v4 => ?_)
  exact t_X6_linesBy_4 X d a0 h0  FU x1 v3 v4 σ
def f_X6_linesOf_28 (a0 : Nat) (H4 : Int32 → Int32 → Int32 → zS → Option (Int32 × zS)) (x1 : Int32) (x2 : Int32) (x3 : Int32) (σ : zS) : Option (Int32 × zS) := zlt (x3 + (1 : Int32)) (fun v1 => H4 x1 x2 v1 σ)
theorem t_X6_linesOf_28 (X : zX) (d : Nat) (a0 : Nat) (h0 : WC.2 a0 = (6, 0)) (H4 : Int32 → Int32 → Int32 → zS → Option (Int32 × zS)) (hH4 : ∀ (x1 : Int32) (x2 : Int32) (x3 : Int32) (σ : zS), zK X WC (zrm d) M_X6_linesOf (zZ X WC zeI) 4 [some (.ref a0), some (.int x1), some (.int x2), some (.int x3)] [] σ (H4 x1 x2 x3 σ)) (x1 : Int32) (x2 : Int32) (x3 : Int32) (σ : zS) : zK X WC (zrm d) M_X6_linesOf (zZ X WC zeI) 28 [some (.ref a0), some (.int x1), some (.int x2), some (.int x3)] [] σ (f_X6_linesOf_28 a0 H4 x1 x2 x3 σ) := by
  unfold f_X6_linesOf_28
  refine z_iinc3 20 31 rfl rfl ci_1 rfl (fun v1 => ?_)
  refine z_goto 21 4 rfl (by decide) ?_
  exact hH4 x1 x2 v1 σ
def f_X6_linesOf_4 (a0 : Nat) : Nat → Int32 → Int32 → Int32 → zS → Option (Int32 × zS)
  | 0, _, _, _, _ => none
  | n + 1, x1, x2, x3, σ => zbr ((σ.1 a0 5) ≤ x3) (some (x2, σ)) (zck (zok 100 (WC.2 (σ.2 a0 2)) x3) (zbr ((σ.1 (σ.2 a0 2) x3.toNatClampNeg) = x1) (zlt (x2 ||| ((1 : Int32) <<< (x3 &&& 31))) (fun v2 => f_X6_linesOf_28 a0 (f_X6_linesOf_4 a0 n) x1 v2 x3 σ)) (f_X6_linesOf_28 a0 (f_X6_linesOf_4 a0 n) x1 x2 x3 σ)))
theorem t_X6_linesOf_4 (X : zX) (d : Nat) (a0 : Nat) (h0 : WC.2 a0 = (6, 0)) : ∀ (n : Nat) (x1 : Int32) (x2 : Int32) (x3 : Int32) (σ : zS), zK X WC (zrm d) M_X6_linesOf (zZ X WC zeI) 4 [some (.ref a0), some (.int x1), some (.int x2), some (.int x3)] [] σ (f_X6_linesOf_4 a0 n x1 x2 x3 σ) := by
  intro n
  induction n with
  | zero => intro x1 x2 x3 σ; exact z_none
  | succ n ih =>
    intro x1 x2 x3 σ
    rw [f_X6_linesOf_4]
    refine z_iload3 4 5 rfl rfl ?_
    refine z_aload0 5 6 rfl rfl ?_
    refine z_getI 6 9 5 rfl rfl zf_X6_27 rfl h0 ?_
    refine z_icmp_ge 7 12 34 rfl rfl (by decide) ?_ ?_
    · refine z_iload2 22 35 rfl rfl ?_
      exact z_iret 23 rfl rfl
    · refine z_aload0 8 13 rfl rfl ?_
      refine z_getR 9 16 2 rfl rfl zf_X6_18 rfl h0 ?_
      refine z_iload3 10 17 rfl rfl ?_
      refine z_iald 11 18 rfl rfl ?_
      refine z_iload1 12 19 rfl rfl ?_
      refine z_icmp_ne 13 22 28 rfl rfl (by decide) ?_ ?_
      · refine z_iload2 14 23 rfl rfl ?_
        refine z_iconst 15 24 rfl rfl ci_1 ?_
        refine z_iload3 16 25 rfl rfl ?_
        refine z_ishl 17 26 rfl rfl ?_
        refine z_ior 18 27 rfl rfl ?_
        refine z_istore2 19 28 rfl rfl rfl (fun v2 => ?_)
        exact t_X6_linesOf_28 X d a0 h0 (f_X6_linesOf_4 a0 n) ih x1 v2 x3 σ
      · exact t_X6_linesOf_28 X d a0 h0 (f_X6_linesOf_4 a0 n) ih x1 x2 x3 σ
def f_X6_linesOf (a0 : Nat) (x1 : Int32) (σ : zS) : Option (Int32 × zS) := zck (WC.2 a0 = (6, 0)) (zlt (0 : Int32) (fun v3 => zlt (0 : Int32) (fun v4 => f_X6_linesOf_4 a0 FU x1 v3 v4 σ)))
theorem c_X6_linesOf (X : zX) (d : Nat) (a0 : Nat) (x1 : Int32) (σ : zS) : ∀ (r : Int32) (σ' : zS), f_X6_linesOf a0 x1 σ = some (r, σ') → zCN X WC d M_X6_linesOf [.ref a0, .int x1] σ (zeI r, σ') := by
  refine z_entry [.ref a0, .int x1] (by decide +kernel) T_X6_linesOf (Nat.le_of_ble_eq_true rfl) ?_
  show zK X WC (zrm d) M_X6_linesOf (zZ X WC zeI) 0 [some (.ref a0), some (.int x1), none, none] [] σ (f_X6_linesOf a0 x1 σ)
  unfold f_X6_linesOf
  refine z_ck (fun h0 => ?_)
  refine z_iconst 0 1 rfl rfl ci_0 ?_
  refine z_istore2 1 2 rfl rfl rfl (fun v3 => ?_)
  refine z_iconst 2 3 rfl rfl ci_0 ?_
  refine z_istore3 3 4 rfl rfl rfl (fun v4 => ?_)
  exact t_X6_linesOf_4 X d a0 h0  FU x1 v3 v4 σ
def f_X6_inchesAt_31 (a0 : Nat) (H4 : Int32 → Int32 → Int32 → zS → Option (Int32 × zS)) (x1 : Int32) (x2 : Int32) (x3 : Int32) (σ : zS) : Option (Int32 × zS) := zlt (x3 + (1 : Int32)) (fun v1 => H4 x1 x2 v1 σ)
theorem t_X6_inchesAt_31 (X : zX) (d : Nat) (a0 : Nat) (h0 : WC.2 a0 = (6, 0)) (H4 : Int32 → Int32 → Int32 → zS → Option (Int32 × zS)) (hH4 : ∀ (x1 : Int32) (x2 : Int32) (x3 : Int32) (σ : zS), zK X WC (zrm d) M_X6_inchesAt (zZ X WC zeI) 4 [some (.ref a0), some (.int x1), some (.int x2), some (.int x3)] [] σ (H4 x1 x2 x3 σ)) (x1 : Int32) (x2 : Int32) (x3 : Int32) (σ : zS) : zK X WC (zrm d) M_X6_inchesAt (zZ X WC zeI) 31 [some (.ref a0), some (.int x1), some (.int x2), some (.int x3)] [] σ (f_X6_inchesAt_31 a0 H4 x1 x2 x3 σ) := by
  unfold f_X6_inchesAt_31
  refine z_iinc3 21 34 rfl rfl ci_1 rfl (fun v1 => ?_)
  refine z_goto 22 4 rfl (by decide) ?_
  exact hH4 x1 x2 v1 σ
def f_X6_inchesAt_4 (a0 : Nat) : Nat → Int32 → Int32 → Int32 → zS → Option (Int32 × zS)
  | 0, _, _, _, _ => none
  | n + 1, x1, x2, x3, σ => zbr ((σ.1 a0 5) ≤ x3) (some (x2, σ)) (zck (zok 100 (WC.2 (σ.2 a0 1)) x3) (zbr ((σ.1 (σ.2 a0 1) x3.toNatClampNeg) = x1) (zck (zok 100 (WC.2 (σ.2 a0 4)) x3) (zlt (x2 + (σ.1 (σ.2 a0 4) x3.toNatClampNeg)) (fun v2 => f_X6_inchesAt_31 a0 (f_X6_inchesAt_4 a0 n) x1 v2 x3 σ))) (f_X6_inchesAt_31 a0 (f_X6_inchesAt_4 a0 n) x1 x2 x3 σ)))
theorem t_X6_inchesAt_4 (X : zX) (d : Nat) (a0 : Nat) (h0 : WC.2 a0 = (6, 0)) : ∀ (n : Nat) (x1 : Int32) (x2 : Int32) (x3 : Int32) (σ : zS), zK X WC (zrm d) M_X6_inchesAt (zZ X WC zeI) 4 [some (.ref a0), some (.int x1), some (.int x2), some (.int x3)] [] σ (f_X6_inchesAt_4 a0 n x1 x2 x3 σ) := by
  intro n
  induction n with
  | zero => intro x1 x2 x3 σ; exact z_none
  | succ n ih =>
    intro x1 x2 x3 σ
    rw [f_X6_inchesAt_4]
    refine z_iload3 4 5 rfl rfl ?_
    refine z_aload0 5 6 rfl rfl ?_
    refine z_getI 6 9 5 rfl rfl zf_X6_27 rfl h0 ?_
    refine z_icmp_ge 7 12 37 rfl rfl (by decide) ?_ ?_
    · refine z_iload2 23 38 rfl rfl ?_
      exact z_iret 24 rfl rfl
    · refine z_aload0 8 13 rfl rfl ?_
      refine z_getR 9 16 1 rfl rfl zf_X6_15 rfl h0 ?_
      refine z_iload3 10 17 rfl rfl ?_
      refine z_iald 11 18 rfl rfl ?_
      refine z_iload1 12 19 rfl rfl ?_
      refine z_icmp_ne 13 22 31 rfl rfl (by decide) ?_ ?_
      · refine z_iload2 14 23 rfl rfl ?_
        refine z_aload0 15 24 rfl rfl ?_
        refine z_getR 16 27 4 rfl rfl zf_X6_24 rfl h0 ?_
        refine z_iload3 17 28 rfl rfl ?_
        refine z_iald 18 29 rfl rfl ?_
        refine z_iadd 19 30 rfl rfl ?_
        refine z_istore2 20 31 rfl rfl rfl (fun v2 => ?_)
        exact t_X6_inchesAt_31 X d a0 h0 (f_X6_inchesAt_4 a0 n) ih x1 v2 x3 σ
      · exact t_X6_inchesAt_31 X d a0 h0 (f_X6_inchesAt_4 a0 n) ih x1 x2 x3 σ
def f_X6_inchesAt (a0 : Nat) (x1 : Int32) (σ : zS) : Option (Int32 × zS) := zck (WC.2 a0 = (6, 0)) (zlt (0 : Int32) (fun v3 => zlt (0 : Int32) (fun v4 => f_X6_inchesAt_4 a0 FU x1 v3 v4 σ)))
theorem c_X6_inchesAt (X : zX) (d : Nat) (a0 : Nat) (x1 : Int32) (σ : zS) : ∀ (r : Int32) (σ' : zS), f_X6_inchesAt a0 x1 σ = some (r, σ') → zCN X WC d M_X6_inchesAt [.ref a0, .int x1] σ (zeI r, σ') := by
  refine z_entry [.ref a0, .int x1] (by decide +kernel) T_X6_inchesAt (Nat.le_of_ble_eq_true rfl) ?_
  show zK X WC (zrm d) M_X6_inchesAt (zZ X WC zeI) 0 [some (.ref a0), some (.int x1), none, none] [] σ (f_X6_inchesAt a0 x1 σ)
  unfold f_X6_inchesAt
  refine z_ck (fun h0 => ?_)
  refine z_iconst 0 1 rfl rfl ci_0 ?_
  refine z_istore2 1 2 rfl rfl rfl (fun v3 => ?_)
  refine z_iconst 2 3 rfl rfl ci_0 ?_
  refine z_istore3 3 4 rfl rfl rfl (fun v4 => ?_)
  exact t_X6_inchesAt_4 X d a0 h0  FU x1 v3 v4 σ
def f_X6_latestAt_48 (a0 : Nat) (H8 : Int32 → Int32 → Int32 → Int32 → zS → Option (Int32 × zS)) (x1 : Int32) (x2 : Int32) (x3 : Int32) (x4 : Int32) (σ : zS) : Option (Int32 × zS) := zlt (x4 + (-1 : Int32)) (fun v1 => H8 x1 x2 x3 v1 σ)
theorem t_X6_latestAt_48 (X : zX) (d : Nat) (a0 : Nat) (h0 : WC.2 a0 = (6, 0)) (H8 : Int32 → Int32 → Int32 → Int32 → zS → Option (Int32 × zS)) (hH8 : ∀ (x1 : Int32) (x2 : Int32) (x3 : Int32) (x4 : Int32) (σ : zS), zK X WC (zrm d) M_X6_latestAt (zZ X WC zeI) 8 [some (.ref a0), some (.int x1), some (.int x2), some (.int x3), some (.int x4)] [] σ (H8 x1 x2 x3 x4 σ)) (x1 : Int32) (x2 : Int32) (x3 : Int32) (x4 : Int32) (σ : zS) : zK X WC (zrm d) M_X6_latestAt (zZ X WC zeI) 48 [some (.ref a0), some (.int x1), some (.int x2), some (.int x3), some (.int x4)] [] σ (f_X6_latestAt_48 a0 H8 x1 x2 x3 x4 σ) := by
  unfold f_X6_latestAt_48
  refine z_iinc4 28 51 rfl rfl ci_m1 rfl (fun v1 => ?_)
  refine z_goto 29 8 rfl (by decide) ?_
  exact hH8 x1 x2 x3 v1 σ
def f_X6_latestAt_8 (a0 : Nat) : Nat → Int32 → Int32 → Int32 → Int32 → zS → Option (Int32 × zS)
  | 0, _, _, _, _, _ => none
  | n + 1, x1, x2, x3, x4, σ => zbr (x4 < 0) (some ((-2 : Int32), σ)) (zbr (((x3 >>> (x4 &&& 31)) &&& (1 : Int32)) = (1 : Int32)) (zck (zok 100 (WC.2 (σ.2 a0 2)) x4) (zbr ((σ.1 (σ.2 a0 2) x4.toNatClampNeg) = x2) (zck (zok 100 (WC.2 (σ.2 a0 1)) x4) (zbr ((σ.1 (σ.2 a0 1) x4.toNatClampNeg) = x1) (some (x4, σ)) (f_X6_latestAt_48 a0 (f_X6_latestAt_8 a0 n) x1 x2 x3 x4 σ))) (f_X6_latestAt_48 a0 (f_X6_latestAt_8 a0 n) x1 x2 x3 x4 σ))) (f_X6_latestAt_48 a0 (f_X6_latestAt_8 a0 n) x1 x2 x3 x4 σ))
theorem t_X6_latestAt_8 (X : zX) (d : Nat) (a0 : Nat) (h0 : WC.2 a0 = (6, 0)) : ∀ (n : Nat) (x1 : Int32) (x2 : Int32) (x3 : Int32) (x4 : Int32) (σ : zS), zK X WC (zrm d) M_X6_latestAt (zZ X WC zeI) 8 [some (.ref a0), some (.int x1), some (.int x2), some (.int x3), some (.int x4)] [] σ (f_X6_latestAt_8 a0 n x1 x2 x3 x4 σ) := by
  intro n
  induction n with
  | zero => intro x1 x2 x3 x4 σ; exact z_none
  | succ n ih =>
    intro x1 x2 x3 x4 σ
    rw [f_X6_latestAt_8]
    refine z_iload4 5 10 rfl rfl ?_
    refine z_if_lt 6 13 54 rfl rfl (by decide) ?_ ?_
    · refine z_bipush 30 56 rfl rfl cb_m2 ?_
      exact z_iret 31 rfl rfl
    · refine z_iload3 7 14 rfl rfl ?_
      refine z_iload4 8 16 rfl rfl ?_
      refine z_ishr 9 17 rfl rfl ?_
      refine z_iconst 10 18 rfl rfl ci_1 ?_
      refine z_iand 11 19 rfl rfl ?_
      refine z_iconst 12 20 rfl rfl ci_1 ?_
      refine z_icmp_ne 13 23 48 rfl rfl (by decide) ?_ ?_
      · refine z_aload0 14 24 rfl rfl ?_
        refine z_getR 15 27 2 rfl rfl zf_X6_18 rfl h0 ?_
        refine z_iload4 16 29 rfl rfl ?_
        refine z_iald 17 30 rfl rfl ?_
        refine z_iload2 18 31 rfl rfl ?_
        refine z_icmp_ne 19 34 48 rfl rfl (by decide) ?_ ?_
        · refine z_aload0 20 35 rfl rfl ?_
          refine z_getR 21 38 1 rfl rfl zf_X6_15 rfl h0 ?_
          refine z_iload4 22 40 rfl rfl ?_
          refine z_iald 23 41 rfl rfl ?_
          refine z_iload1 24 42 rfl rfl ?_
          refine z_icmp_ne 25 45 48 rfl rfl (by decide) ?_ ?_
          · refine z_iload4 26 47 rfl rfl ?_
            exact z_iret 27 rfl rfl
          · exact t_X6_latestAt_48 X d a0 h0 (f_X6_latestAt_8 a0 n) ih x1 x2 x3 x4 σ
        · exact t_X6_latestAt_48 X d a0 h0 (f_X6_latestAt_8 a0 n) ih x1 x2 x3 x4 σ
      · exact t_X6_latestAt_48 X d a0 h0 (f_X6_latestAt_8 a0 n) ih x1 x2 x3 x4 σ
def f_X6_latestAt (a0 : Nat) (x1 : Int32) (x2 : Int32) (x3 : Int32) (σ : zS) : Option (Int32 × zS) := zck (WC.2 a0 = (6, 0)) (zlt ((σ.1 a0 5) - (1 : Int32)) (fun v2 => f_X6_latestAt_8 a0 FU x1 x2 x3 v2 σ))
theorem c_X6_latestAt (X : zX) (d : Nat) (a0 : Nat) (x1 : Int32) (x2 : Int32) (x3 : Int32) (σ : zS) : ∀ (r : Int32) (σ' : zS), f_X6_latestAt a0 x1 x2 x3 σ = some (r, σ') → zCN X WC d M_X6_latestAt [.ref a0, .int x1, .int x2, .int x3] σ (zeI r, σ') := by
  refine z_entry [.ref a0, .int x1, .int x2, .int x3] (by decide +kernel) T_X6_latestAt (Nat.le_of_ble_eq_true rfl) ?_
  show zK X WC (zrm d) M_X6_latestAt (zZ X WC zeI) 0 [some (.ref a0), some (.int x1), some (.int x2), some (.int x3), none] [] σ (f_X6_latestAt a0 x1 x2 x3 σ)
  unfold f_X6_latestAt
  refine z_ck (fun h0 => ?_)
  refine z_aload0 0 1 rfl rfl ?_
  refine z_getI 1 4 5 rfl rfl zf_X6_27 rfl h0 ?_
  refine z_iconst 2 5 rfl rfl ci_1 ?_
  refine z_isub 3 6 rfl rfl ?_
  refine z_istore4 4 8 rfl rfl rfl (fun v2 => ?_)
  exact t_X6_latestAt_8 X d a0 h0  FU x1 x2 x3 v2 σ
def f_X7_keep_57 (a0 : Nat) (x1 : Int32) (x2 : Int32) (σ : zS) : Option (Unit × zS) := zck (zok 100 (WC.2 (σ.2 a0 0)) (σ.1 a0 2)) (zlt (zpi σ (σ.2 a0 0) (σ.1 a0 2).toNatClampNeg x1) (fun σ1 => zck (zok 100 (WC.2 (σ1.2 a0 1)) (σ1.1 a0 2)) (zlt (zpi σ1 (σ1.2 a0 1) (σ1.1 a0 2).toNatClampNeg x2) (fun σ2 => zlt (zpi σ2 a0 2 ((σ2.1 a0 2) + (1 : Int32))) (fun σ3 => some ((), σ3))))))
theorem t_X7_keep_57 (X : zX) (d : Nat) (a0 : Nat) (h0 : WC.2 a0 = (7, 0)) (x1 : Int32) (x2 : Int32) (σ : zS) : zK X WC (zrm d) M_X7_keep (zZ X WC zeV) 57 [some (.ref a0), some (.int x1), some (.int x2), none] [] σ (f_X7_keep_57 a0 x1 x2 σ) := by
  unfold f_X7_keep_57
  refine z_aload0 34 58 rfl rfl ?_
  refine z_getR 35 61 0 rfl rfl zf_X7_9 rfl h0 ?_
  refine z_aload0 36 62 rfl rfl ?_
  refine z_getI 37 65 2 rfl rfl zf_X7_18 rfl h0 ?_
  refine z_iload1 38 66 rfl rfl ?_
  refine z_iast 39 67 rfl rfl (fun σ1 => ?_)
  refine z_aload0 40 68 rfl rfl ?_
  refine z_getR 41 71 1 rfl rfl zf_X7_15 rfl h0 ?_
  refine z_aload0 42 72 rfl rfl ?_
  refine z_getI 43 75 2 rfl rfl zf_X7_18 rfl h0 ?_
  refine z_iload2 44 76 rfl rfl ?_
  refine z_iast 45 77 rfl rfl (fun σ2 => ?_)
  refine z_aload0 46 78 rfl rfl ?_
  refine z_dup 47 79 rfl rfl rfl ?_
  refine z_getI 48 82 2 rfl rfl zf_X7_18 rfl h0 ?_
  refine z_iconst 49 83 rfl rfl ci_1 ?_
  refine z_iadd 50 84 rfl rfl ?_
  refine z_putI 51 87 2 rfl rfl zf_X7_18 rfl rfl rfl h0 (fun σ3 => ?_)
  exact z_vret 52 rfl rfl
def f_X7_keep_11 (a0 : Nat) : Nat → Int32 → Int32 → Int32 → zS → Option (Unit × zS)
  | 0, _, _, _, _ => none
  | n + 1, x1, x2, x3, σ => zbr ((16 : Int32) ≤ x3) (zlt (zpi σ a0 2 (15 : Int32)) (fun σ4 => f_X7_keep_57 a0 x1 x2 σ4)) (zck (zok 100 (WC.2 (σ.2 a0 0)) x3) (zck (zok 100 (WC.2 (σ.2 a0 0)) (x3 - (1 : Int32))) (zlt (zpi σ (σ.2 a0 0) (x3 - (1 : Int32)).toNatClampNeg (σ.1 (σ.2 a0 0) x3.toNatClampNeg)) (fun σ5 => zck (zok 100 (WC.2 (σ5.2 a0 1)) x3) (zck (zok 100 (WC.2 (σ5.2 a0 1)) (x3 - (1 : Int32))) (zlt (zpi σ5 (σ5.2 a0 1) (x3 - (1 : Int32)).toNatClampNeg (σ5.1 (σ5.2 a0 1) x3.toNatClampNeg)) (fun σ6 => zlt (x3 + (1 : Int32)) (fun v7 => f_X7_keep_11 a0 n x1 x2 v7 σ6))))))))
theorem t_X7_keep_11 (X : zX) (d : Nat) (a0 : Nat) (h0 : WC.2 a0 = (7, 0)) : ∀ (n : Nat) (x1 : Int32) (x2 : Int32) (x3 : Int32) (σ : zS), zK X WC (zrm d) M_X7_keep (zZ X WC zeV) 11 [some (.ref a0), some (.int x1), some (.int x2), some (.int x3)] [] σ (f_X7_keep_11 a0 n x1 x2 x3 σ) := by
  intro n
  induction n with
  | zero => intro x1 x2 x3 σ; exact z_none
  | succ n ih =>
    intro x1 x2 x3 σ
    rw [f_X7_keep_11]
    refine z_iload3 6 12 rfl rfl ?_
    refine z_bipush 7 14 rfl rfl cb_16 ?_
    refine z_icmp_ge 8 17 51 rfl rfl (by decide) ?_ ?_
    · refine z_aload0 31 52 rfl rfl ?_
      refine z_bipush 32 54 rfl rfl cb_15 ?_
      refine z_putI 33 57 2 rfl rfl zf_X7_18 rfl rfl rfl h0 (fun σ4 => ?_)
      exact z_wk (zle_e (zle_e (zle_e (zle_n zle_0)))) (t_X7_keep_57 X d a0 h0  x1 x2 σ4)
    · refine z_aload0 9 18 rfl rfl ?_
      refine z_getR 10 21 0 rfl rfl zf_X7_9 rfl h0 ?_
      refine z_iload3 11 22 rfl rfl ?_
      refine z_iconst 12 23 rfl rfl ci_1 ?_
      refine z_isub 13 24 rfl rfl ?_
      refine z_aload0 14 25 rfl rfl ?_
      refine z_getR 15 28 0 rfl rfl zf_X7_9 rfl h0 ?_
      refine z_iload3 16 29 rfl rfl ?_
      refine z_iald 17 30 rfl rfl ?_
      refine z_iast 18 31 rfl rfl (fun σ5 => ?_)
      refine z_aload0 19 32 rfl rfl ?_
      refine z_getR 20 35 1 rfl rfl zf_X7_15 rfl h0 ?_
      refine z_iload3 21 36 rfl rfl ?_
      refine z_iconst 22 37 rfl rfl ci_1 ?_
      refine z_isub 23 38 rfl rfl ?_
      refine z_aload0 24 39 rfl rfl ?_
      refine z_getR 25 42 1 rfl rfl zf_X7_15 rfl h0 ?_
      refine z_iload3 26 43 rfl rfl ?_
      refine z_iald 27 44 rfl rfl ?_
      refine z_iast 28 45 rfl rfl (fun σ6 => ?_)
      refine z_iinc3 29 48 rfl rfl ci_1 rfl (fun v7 => ?_)
      refine z_goto 30 11 rfl (by decide) ?_
      exact ih x1 x2 v7 σ6
def f_X7_keep (a0 : Nat) (x1 : Int32) (x2 : Int32) (σ : zS) : Option (Unit × zS) := zck (WC.2 a0 = (7, 0)) (zbr ((σ.1 a0 2) < (16 : Int32)) (f_X7_keep_57 a0 x1 x2 σ) (zlt (1 : Int32) (fun v8 => f_X7_keep_11 a0 FU x1 x2 v8 σ)))
theorem c_X7_keep (X : zX) (d : Nat) (a0 : Nat) (x1 : Int32) (x2 : Int32) (σ : zS) : ∀ (r : Unit) (σ' : zS), f_X7_keep a0 x1 x2 σ = some (r, σ') → zCN X WC d M_X7_keep [.ref a0, .int x1, .int x2] σ (zeV r, σ') := by
  refine z_entry [.ref a0, .int x1, .int x2] (by decide +kernel) T_X7_keep (Nat.le_of_ble_eq_true rfl) ?_
  show zK X WC (zrm d) M_X7_keep (zZ X WC zeV) 0 [some (.ref a0), some (.int x1), some (.int x2), none] [] σ (f_X7_keep a0 x1 x2 σ)
  unfold f_X7_keep
  refine z_ck (fun h0 => ?_)
  refine z_aload0 0 1 rfl rfl ?_
  refine z_getI 1 4 2 rfl rfl zf_X7_18 rfl h0 ?_
  refine z_bipush 2 6 rfl rfl cb_16 ?_
  refine z_icmp_lt 3 9 57 rfl rfl (by decide) ?_ ?_
  · exact t_X7_keep_57 X d a0 h0  x1 x2 σ
  · refine z_iconst 4 10 rfl rfl ci_1 ?_
    refine z_istore3 5 11 rfl rfl rfl (fun v8 => ?_)
    exact t_X7_keep_11 X d a0 h0  FU x1 x2 v8 σ
def f_X9_isSmall (a0 : Nat) (x1 : Int32) (σ : zS) : Option (Int32 × zS) := zck (WC.2 a0 = (9, 0)) (zck (zok 101 (WC.2 (σ.2 a0 0)) x1) (zbr ((σ.1 (σ.2 a0 0) x1.toNatClampNeg) < (97 : Int32)) (zck (zb (0 : Int32)) (some ((0 : Int32), σ))) (zck (zok 101 (WC.2 (σ.2 a0 0)) x1) (zbr ((122 : Int32) < (σ.1 (σ.2 a0 0) x1.toNatClampNeg)) (zck (zb (0 : Int32)) (some ((0 : Int32), σ))) (zck (zb (1 : Int32)) (some ((1 : Int32), σ)))))))
theorem c_X9_isSmall (X : zX) (d : Nat) (a0 : Nat) (x1 : Int32) (σ : zS) : ∀ (r : Int32) (σ' : zS), f_X9_isSmall a0 x1 σ = some (r, σ') → zCN X WC d M_X9_isSmall [.ref a0, .int x1] σ (zeI r, σ') := by
  refine z_entry [.ref a0, .int x1] (by decide +kernel) T_X9_isSmall (Nat.le_of_ble_eq_true rfl) ?_
  show zK X WC (zrm d) M_X9_isSmall (zZ X WC zeI) 0 [some (.ref a0), some (.int x1)] [] σ (f_X9_isSmall a0 x1 σ)
  unfold f_X9_isSmall
  refine z_ck (fun h0 => ?_)
  refine z_aload0 0 1 rfl rfl ?_
  refine z_getR 1 4 0 rfl rfl zf_X9_9 rfl h0 ?_
  refine z_iload1 2 5 rfl rfl ?_
  refine z_bald 3 6 rfl rfl ?_
  refine z_bipush 4 8 rfl rfl cb_97 ?_
  refine z_icmp_lt 5 11 26 rfl rfl (by decide) ?_ ?_
  · refine z_iconst 14 27 rfl rfl ci_0 ?_
    exact z_zret 15 rfl rfl
  · refine z_aload0 6 12 rfl rfl ?_
    refine z_getR 7 15 0 rfl rfl zf_X9_9 rfl h0 ?_
    refine z_iload1 8 16 rfl rfl ?_
    refine z_bald 9 17 rfl rfl ?_
    refine z_bipush 10 19 rfl rfl cb_122 ?_
    refine z_icmp_gt 11 22 26 rfl rfl (by decide) ?_ ?_
    · refine z_iconst 14 27 rfl rfl ci_0 ?_
      exact z_zret 15 rfl rfl
    · refine z_iconst 12 23 rfl rfl ci_1 ?_
      refine z_goto 13 27 rfl (by decide) ?_
      exact z_zret 15 rfl rfl
def f_X9_readWord_35 (a0 : Nat)  (σ : zS) : Option (Unit × zS) := zbr ((8 : Int32) < ((σ.1 a0 4) - (σ.1 a0 3))) (zlt (zpi σ a0 5 (4 : Int32)) (fun σ1 => some ((), σ1))) (zlt (zpi σ a0 5 (1 : Int32)) (fun σ2 => some ((), σ2)))
theorem t_X9_readWord_35 (X : zX) (d : Nat) (hd : 1 ≤ d + 1) (a0 : Nat) (h0 : WC.2 a0 = (9, 0))  (σ : zS) : zK X WC (zrm (d + 1)) M_X9_readWord (zZ X WC zeV) 35 [some (.ref a0)] [] σ (f_X9_readWord_35 a0 σ) := by
  unfold f_X9_readWord_35
  refine z_aload0 17 36 rfl rfl ?_
  refine z_aload0 18 37 rfl rfl ?_
  refine z_getI 19 40 4 rfl rfl zf_X9_22 rfl h0 ?_
  refine z_aload0 20 41 rfl rfl ?_
  refine z_getI 21 44 3 rfl rfl zf_X9_28 rfl h0 ?_
  refine z_isub 22 45 rfl rfl ?_
  refine z_bipush 23 47 rfl rfl cb_8 ?_
  refine z_icmp_gt 24 50 54 rfl rfl (by decide) ?_ ?_
  · refine z_iconst 27 55 rfl rfl ci_4 ?_
    refine z_putI 28 58 5 rfl rfl zf_X9_31 rfl rfl rfl h0 (fun σ1 => ?_)
    exact z_vret 29 rfl rfl
  · refine z_iconst 25 51 rfl rfl ci_1 ?_
    refine z_goto 26 55 rfl (by decide) ?_
    refine z_putI 28 58 5 rfl rfl zf_X9_31 rfl rfl rfl h0 (fun σ2 => ?_)
    exact z_vret 29 rfl rfl
def f_X9_readWord_0 (a0 : Nat) : Nat → zS → Option (Unit × zS)
  | 0, _ => none
  | n + 1, σ => zbr ((σ.1 a0 2) ≤ (σ.1 a0 4)) (f_X9_readWord_35 a0 σ) (zbd (f_X9_isSmall a0 (σ.1 a0 4) σ) (fun r3 σ4 => zbr (r3 = 0) (f_X9_readWord_35 a0 σ4) (zlt (zpi σ4 a0 4 ((σ4.1 a0 4) + (1 : Int32))) (fun σ5 => f_X9_readWord_0 a0 n σ5))))
theorem t_X9_readWord_0 (X : zX) (d : Nat) (hd : 1 ≤ d + 1) (a0 : Nat) (h0 : WC.2 a0 = (9, 0)) : ∀ (n : Nat)  (σ : zS), zK X WC (zrm (d + 1)) M_X9_readWord (zZ X WC zeV) 0 [some (.ref a0)] [] σ (f_X9_readWord_0 a0 n σ) := by
  intro n
  induction n with
  | zero => intro σ; exact z_none
  | succ n ih =>
    intro σ
    rw [f_X9_readWord_0]
    refine z_aload0 0 1 rfl rfl ?_
    refine z_getI 1 4 4 rfl rfl zf_X9_22 rfl h0 ?_
    refine z_aload0 2 5 rfl rfl ?_
    refine z_getI 3 8 2 rfl rfl zf_X9_19 rfl h0 ?_
    refine z_icmp_ge 4 11 35 rfl rfl (by decide) ?_ ?_
    · exact t_X9_readWord_35 X d hd a0 h0  σ
    · refine z_aload0 5 12 rfl rfl ?_
      refine z_aload0 6 13 rfl rfl ?_
      refine z_getI 7 16 4 rfl rfl zf_X9_22 rfl h0 ?_
      refine z_cV1I 8 19 rfl rfl zl_X9_34 F_X9_isSmall (zR_rm (by omega)) (c_X9_isSmall X d a0 (σ.1 a0 4) σ) ⟨by decide, rfl, rfl⟩ h0 rfl (Nat.le_of_ble_eq_true rfl) (fun r3 σ4 => ?_)
      refine z_if_eq 9 22 35 rfl rfl (by decide) ?_ ?_
      · exact t_X9_readWord_35 X d hd a0 h0  σ4
      · refine z_aload0 10 23 rfl rfl ?_
        refine z_dup 11 24 rfl rfl rfl ?_
        refine z_getI 12 27 4 rfl rfl zf_X9_22 rfl h0 ?_
        refine z_iconst 13 28 rfl rfl ci_1 ?_
        refine z_iadd 14 29 rfl rfl ?_
        refine z_putI 15 32 4 rfl rfl zf_X9_22 rfl rfl rfl h0 (fun σ5 => ?_)
        refine z_goto 16 0 rfl (by decide) ?_
        exact ih σ5
def f_X9_readWord (a0 : Nat) (σ : zS) : Option (Unit × zS) := zck (WC.2 a0 = (9, 0)) (f_X9_readWord_0 a0 FU σ)
theorem c_X9_readWord (X : zX) (d : Nat) (hd : 1 ≤ d) (a0 : Nat) (σ : zS) : ∀ (r : Unit) (σ' : zS), f_X9_readWord a0 σ = some (r, σ') → zCN X WC d M_X9_readWord [.ref a0] σ (zeV r, σ') := by
  obtain ⟨d, rfl⟩ : ∃ e, d = e + 1 := ⟨d - 1, by omega⟩
  refine z_entry [.ref a0] (by decide +kernel) T_X9_readWord (Nat.le_of_ble_eq_true rfl) ?_
  show zK X WC (zrm (d + 1)) M_X9_readWord (zZ X WC zeV) 0 [some (.ref a0)] [] σ (f_X9_readWord a0 σ)
  unfold f_X9_readWord
  refine z_ck (fun h0 => ?_)
  exact t_X9_readWord_0 X d hd a0 h0  FU σ
def f_X9_isDigit (a0 : Nat) (x1 : Int32) (σ : zS) : Option (Int32 × zS) := zck (WC.2 a0 = (9, 0)) (zck (zok 101 (WC.2 (σ.2 a0 0)) x1) (zbr ((σ.1 (σ.2 a0 0) x1.toNatClampNeg) < (48 : Int32)) (zck (zb (0 : Int32)) (some ((0 : Int32), σ))) (zck (zok 101 (WC.2 (σ.2 a0 0)) x1) (zbr ((57 : Int32) < (σ.1 (σ.2 a0 0) x1.toNatClampNeg)) (zck (zb (0 : Int32)) (some ((0 : Int32), σ))) (zck (zb (1 : Int32)) (some ((1 : Int32), σ)))))))
theorem c_X9_isDigit (X : zX) (d : Nat) (a0 : Nat) (x1 : Int32) (σ : zS) : ∀ (r : Int32) (σ' : zS), f_X9_isDigit a0 x1 σ = some (r, σ') → zCN X WC d M_X9_isDigit [.ref a0, .int x1] σ (zeI r, σ') := by
  refine z_entry [.ref a0, .int x1] (by decide +kernel) T_X9_isDigit (Nat.le_of_ble_eq_true rfl) ?_
  show zK X WC (zrm d) M_X9_isDigit (zZ X WC zeI) 0 [some (.ref a0), some (.int x1)] [] σ (f_X9_isDigit a0 x1 σ)
  unfold f_X9_isDigit
  refine z_ck (fun h0 => ?_)
  refine z_aload0 0 1 rfl rfl ?_
  refine z_getR 1 4 0 rfl rfl zf_X9_9 rfl h0 ?_
  refine z_iload1 2 5 rfl rfl ?_
  refine z_bald 3 6 rfl rfl ?_
  refine z_bipush 4 8 rfl rfl cb_48 ?_
  refine z_icmp_lt 5 11 26 rfl rfl (by decide) ?_ ?_
  · refine z_iconst 14 27 rfl rfl ci_0 ?_
    exact z_zret 15 rfl rfl
  · refine z_aload0 6 12 rfl rfl ?_
    refine z_getR 7 15 0 rfl rfl zf_X9_9 rfl h0 ?_
    refine z_iload1 8 16 rfl rfl ?_
    refine z_bald 9 17 rfl rfl ?_
    refine z_bipush 10 19 rfl rfl cb_57 ?_
    refine z_icmp_gt 11 22 26 rfl rfl (by decide) ?_ ?_
    · refine z_iconst 14 27 rfl rfl ci_0 ?_
      exact z_zret 15 rfl rfl
    · refine z_iconst 12 23 rfl rfl ci_1 ?_
      refine z_goto 13 27 rfl (by decide) ?_
      exact z_zret 15 rfl rfl
def f_X9_readWhole_64 (a0 : Nat)  (σ : zS) : Option (Unit × zS) := zbr ((3 : Int32) < ((σ.1 a0 4) - (σ.1 a0 3))) (zlt (zpi σ a0 5 (4 : Int32)) (fun σ1 => some ((), σ1))) (zlt (zpi σ a0 5 (2 : Int32)) (fun σ2 => some ((), σ2)))
theorem t_X9_readWhole_64 (X : zX) (d : Nat) (hd : 1 ≤ d + 1) (a0 : Nat) (h0 : WC.2 a0 = (9, 0))  (σ : zS) : zK X WC (zrm (d + 1)) M_X9_readWhole (zZ X WC zeV) 64 [some (.ref a0)] [] σ (f_X9_readWhole_64 a0 σ) := by
  unfold f_X9_readWhole_64
  refine z_aload0 34 65 rfl rfl ?_
  refine z_aload0 35 66 rfl rfl ?_
  refine z_getI 36 69 4 rfl rfl zf_X9_22 rfl h0 ?_
  refine z_aload0 37 70 rfl rfl ?_
  refine z_getI 38 73 3 rfl rfl zf_X9_28 rfl h0 ?_
  refine z_isub 39 74 rfl rfl ?_
  refine z_iconst 40 75 rfl rfl ci_3 ?_
  refine z_icmp_gt 41 78 82 rfl rfl (by decide) ?_ ?_
  · refine z_iconst 44 83 rfl rfl ci_4 ?_
    refine z_putI 45 86 5 rfl rfl zf_X9_31 rfl rfl rfl h0 (fun σ1 => ?_)
    exact z_vret 46 rfl rfl
  · refine z_iconst 42 79 rfl rfl ci_2 ?_
    refine z_goto 43 83 rfl (by decide) ?_
    refine z_putI 45 86 5 rfl rfl zf_X9_31 rfl rfl rfl h0 (fun σ2 => ?_)
    exact z_vret 46 rfl rfl
def f_X9_readWhole_5 (a0 : Nat) : Nat → zS → Option (Unit × zS)
  | 0, _ => none
  | n + 1, σ => zbr ((σ.1 a0 2) ≤ (σ.1 a0 4)) (f_X9_readWhole_64 a0 σ) (zbd (f_X9_isDigit a0 (σ.1 a0 4) σ) (fun r3 σ4 => zbr (r3 = 0) (f_X9_readWhole_64 a0 σ4) (zck (zok 101 (WC.2 (σ4.2 a0 0)) (σ4.1 a0 4)) (zlt (zpi σ4 a0 6 ((((10 : Int32) * (σ4.1 a0 6)) + (σ4.1 (σ4.2 a0 0) (σ4.1 a0 4).toNatClampNeg)) - (48 : Int32))) (fun σ5 => zlt (zpi σ5 a0 4 ((σ5.1 a0 4) + (1 : Int32))) (fun σ6 => f_X9_readWhole_5 a0 n σ6))))))
theorem t_X9_readWhole_5 (X : zX) (d : Nat) (hd : 1 ≤ d + 1) (a0 : Nat) (h0 : WC.2 a0 = (9, 0)) : ∀ (n : Nat)  (σ : zS), zK X WC (zrm (d + 1)) M_X9_readWhole (zZ X WC zeV) 5 [some (.ref a0)] [] σ (f_X9_readWhole_5 a0 n σ) := by
  intro n
  induction n with
  | zero => intro σ; exact z_none
  | succ n ih =>
    intro σ
    rw [f_X9_readWhole_5]
    refine z_aload0 3 6 rfl rfl ?_
    refine z_getI 4 9 4 rfl rfl zf_X9_22 rfl h0 ?_
    refine z_aload0 5 10 rfl rfl ?_
    refine z_getI 6 13 2 rfl rfl zf_X9_19 rfl h0 ?_
    refine z_icmp_ge 7 16 64 rfl rfl (by decide) ?_ ?_
    · exact t_X9_readWhole_64 X d hd a0 h0  σ
    · refine z_aload0 8 17 rfl rfl ?_
      refine z_aload0 9 18 rfl rfl ?_
      refine z_getI 10 21 4 rfl rfl zf_X9_22 rfl h0 ?_
      refine z_cV1I 11 24 rfl rfl zl_X9_41 F_X9_isDigit (zR_rm (by omega)) (c_X9_isDigit X d a0 (σ.1 a0 4) σ) ⟨by decide, rfl, rfl⟩ h0 rfl (Nat.le_of_ble_eq_true rfl) (fun r3 σ4 => ?_)
      refine z_if_eq 12 27 64 rfl rfl (by decide) ?_ ?_
      · exact t_X9_readWhole_64 X d hd a0 h0  σ4
      · refine z_aload0 13 28 rfl rfl ?_
        refine z_bipush 14 30 rfl rfl cb_10 ?_
        refine z_aload0 15 31 rfl rfl ?_
        refine z_getI 16 34 6 rfl rfl zf_X9_47 rfl h0 ?_
        refine z_imul 17 35 rfl rfl ?_
        refine z_aload0 18 36 rfl rfl ?_
        refine z_getR 19 39 0 rfl rfl zf_X9_9 rfl h0 ?_
        refine z_aload0 20 40 rfl rfl ?_
        refine z_getI 21 43 4 rfl rfl zf_X9_22 rfl h0 ?_
        refine z_bald 22 44 rfl rfl ?_
        refine z_iadd 23 45 rfl rfl ?_
        refine z_bipush 24 47 rfl rfl cb_48 ?_
        refine z_isub 25 48 rfl rfl ?_
        refine z_putI 26 51 6 rfl rfl zf_X9_47 rfl rfl rfl h0 (fun σ5 => ?_)
        refine z_aload0 27 52 rfl rfl ?_
        refine z_dup 28 53 rfl rfl rfl ?_
        refine z_getI 29 56 4 rfl rfl zf_X9_22 rfl h0 ?_
        refine z_iconst 30 57 rfl rfl ci_1 ?_
        refine z_iadd 31 58 rfl rfl ?_
        refine z_putI 32 61 4 rfl rfl zf_X9_22 rfl rfl rfl h0 (fun σ6 => ?_)
        refine z_goto 33 5 rfl (by decide) ?_
        exact ih σ6
def f_X9_readWhole (a0 : Nat) (σ : zS) : Option (Unit × zS) := zck (WC.2 a0 = (9, 0)) (zlt (zpi σ a0 6 (0 : Int32)) (fun σ7 => f_X9_readWhole_5 a0 FU σ7))
theorem c_X9_readWhole (X : zX) (d : Nat) (hd : 1 ≤ d) (a0 : Nat) (σ : zS) : ∀ (r : Unit) (σ' : zS), f_X9_readWhole a0 σ = some (r, σ') → zCN X WC d M_X9_readWhole [.ref a0] σ (zeV r, σ') := by
  obtain ⟨d, rfl⟩ : ∃ e, d = e + 1 := ⟨d - 1, by omega⟩
  refine z_entry [.ref a0] (by decide +kernel) T_X9_readWhole (Nat.le_of_ble_eq_true rfl) ?_
  show zK X WC (zrm (d + 1)) M_X9_readWhole (zZ X WC zeV) 0 [some (.ref a0)] [] σ (f_X9_readWhole a0 σ)
  unfold f_X9_readWhole
  refine z_ck (fun h0 => ?_)
  refine z_aload0 0 1 rfl rfl ?_
  refine z_iconst 1 2 rfl rfl ci_0 ?_
  refine z_putI 2 5 6 rfl rfl zf_X9_47 rfl rfl rfl h0 (fun σ7 => ?_)
  exact t_X9_readWhole_5 X d hd a0 h0  FU σ7
def f_X9_next_129 (a0 : Nat) (s0 : Nat) (s1 : Int32) (σ : zS) : Option (Unit × zS) := zck (WC.2 s0 = (9, 0)) (zlt (zpi σ s0 5 s1) (fun σ2 => zlt (zpi σ2 a0 4 ((σ2.1 a0 4) + (1 : Int32))) (fun σ3 => some ((), σ3))))
theorem t_X9_next_129 (X : zX) (d : Nat) (hd : 2 ≤ d + 1) (a0 : Nat) (h0 : WC.2 a0 = (9, 0)) (s0 : Nat) (s1 : Int32) (σ : zS) : zK X WC (zrm (d + 1)) M_X9_next (zZ X WC zeV) 129 [some (.ref a0)] [.int s1, .ref s0] σ (f_X9_next_129 a0 s0 s1 σ) := by
  unfold f_X9_next_129
  refine z_ck (fun h1 => ?_)
  refine z_putI 63 132 5 rfl rfl zf_X9_31 rfl rfl rfl h1 (fun σ2 => ?_)
  refine z_aload0 64 133 rfl rfl ?_
  refine z_dup 65 134 rfl rfl rfl ?_
  refine z_getI 66 137 4 rfl rfl zf_X9_22 rfl h0 ?_
  refine z_iconst 67 138 rfl rfl ci_1 ?_
  refine z_iadd 68 139 rfl rfl ?_
  refine z_putI 69 142 4 rfl rfl zf_X9_22 rfl rfl rfl h0 (fun σ3 => ?_)
  exact z_vret 70 rfl rfl
def f_X9_next_46 (a0 : Nat)  (σ : zS) : Option (Unit × zS) := zlt (zpi σ a0 4 (σ.1 a0 3)) (fun σ4 => zbr ((σ4.1 a0 3) < (σ4.1 a0 2)) (zbd (f_X9_isSmall a0 (σ4.1 a0 3) σ4) (fun r5 σ6 => zbr (r5 = 0) (zbd (f_X9_isDigit a0 (σ6.1 a0 3) σ6) (fun r7 σ8 => zbr (r7 = 0) (zck (zok 101 (WC.2 (σ8.2 a0 0)) (σ8.1 a0 3)) (zbr ((σ8.1 (σ8.2 a0 0) (σ8.1 a0 3).toNatClampNeg) = (59 : Int32)) (f_X9_next_129 a0 a0 (3 : Int32) σ8) (f_X9_next_129 a0 a0 (4 : Int32) σ8))) (zbd (f_X9_readWhole a0 σ8) (fun r9 σ10 => some ((), σ10))))) (zbd (f_X9_readWord a0 σ6) (fun r11 σ12 => some ((), σ12))))) (zlt (zpi σ4 a0 5 (0 : Int32)) (fun σ13 => some ((), σ13))))
theorem t_X9_next_46 (X : zX) (d : Nat) (hd : 2 ≤ d + 1) (a0 : Nat) (h0 : WC.2 a0 = (9, 0))  (σ : zS) : zK X WC (zrm (d + 1)) M_X9_next (zZ X WC zeV) 46 [some (.ref a0)] [] σ (f_X9_next_46 a0 σ) := by
  unfold f_X9_next_46
  refine z_aload0 23 47 rfl rfl ?_
  refine z_aload0 24 48 rfl rfl ?_
  refine z_getI 25 51 3 rfl rfl zf_X9_28 rfl h0 ?_
  refine z_putI 26 54 4 rfl rfl zf_X9_22 rfl rfl rfl h0 (fun σ4 => ?_)
  refine z_aload0 27 55 rfl rfl ?_
  refine z_getI 28 58 3 rfl rfl zf_X9_28 rfl h0 ?_
  refine z_aload0 29 59 rfl rfl ?_
  refine z_getI 30 62 2 rfl rfl zf_X9_19 rfl h0 ?_
  refine z_icmp_lt 31 65 73 rfl rfl (by decide) ?_ ?_
  · refine z_aload0 36 74 rfl rfl ?_
    refine z_aload0 37 75 rfl rfl ?_
    refine z_getI 38 78 3 rfl rfl zf_X9_28 rfl h0 ?_
    refine z_cV1I 39 81 rfl rfl zl_X9_34 F_X9_isSmall (zR_rm (by omega)) (c_X9_isSmall X d a0 (σ4.1 a0 3) σ4) ⟨by decide, rfl, rfl⟩ h0 rfl (Nat.le_of_ble_eq_true rfl) (fun r5 σ6 => ?_)
    refine z_if_eq 40 84 91 rfl rfl (by decide) ?_ ?_
    · refine z_aload0 44 92 rfl rfl ?_
      refine z_aload0 45 93 rfl rfl ?_
      refine z_getI 46 96 3 rfl rfl zf_X9_28 rfl h0 ?_
      refine z_cV1I 47 99 rfl rfl zl_X9_41 F_X9_isDigit (zR_rm (by omega)) (c_X9_isDigit X d a0 (σ6.1 a0 3) σ6) ⟨by decide, rfl, rfl⟩ h0 rfl (Nat.le_of_ble_eq_true rfl) (fun r7 σ8 => ?_)
      refine z_if_eq 48 102 109 rfl rfl (by decide) ?_ ?_
      · refine z_aload0 52 110 rfl rfl ?_
        refine z_aload0 53 111 rfl rfl ?_
        refine z_getR 54 114 0 rfl rfl zf_X9_9 rfl h0 ?_
        refine z_aload0 55 115 rfl rfl ?_
        refine z_getI 56 118 3 rfl rfl zf_X9_28 rfl h0 ?_
        refine z_bald 57 119 rfl rfl ?_
        refine z_bipush 58 121 rfl rfl cb_59 ?_
        refine z_icmp_ne 59 124 128 rfl rfl (by decide) ?_ ?_
        · refine z_iconst 60 125 rfl rfl ci_3 ?_
          refine z_goto 61 129 rfl (by decide) ?_
          exact t_X9_next_129 X d hd a0 h0  a0 (3 : Int32) σ8
        · refine z_iconst 62 129 rfl rfl ci_4 ?_
          exact t_X9_next_129 X d hd a0 h0  a0 (4 : Int32) σ8
      · refine z_aload0 49 103 rfl rfl ?_
        refine z_cV0V 50 106 rfl rfl zl_X9_44 F_X9_readWhole (zR_rm (by omega)) (c_X9_readWhole X d (by omega) a0 σ8) ⟨by decide, rfl, rfl⟩ h0 rfl (Nat.le_of_ble_eq_true rfl) (fun r9 σ10 => ?_)
        refine z_goto 51 142 rfl (by decide) ?_
        exact z_vret 70 rfl rfl
    · refine z_aload0 41 85 rfl rfl ?_
      refine z_cV0V 42 88 rfl rfl zl_X9_38 F_X9_readWord (zR_rm (by omega)) (c_X9_readWord X d (by omega) a0 σ6) ⟨by decide, rfl, rfl⟩ h0 rfl (Nat.le_of_ble_eq_true rfl) (fun r11 σ12 => ?_)
      refine z_goto 43 142 rfl (by decide) ?_
      exact z_vret 70 rfl rfl
  · refine z_aload0 32 66 rfl rfl ?_
    refine z_iconst 33 67 rfl rfl ci_0 ?_
    refine z_putI 34 70 5 rfl rfl zf_X9_31 rfl rfl rfl h0 (fun σ13 => ?_)
    refine z_goto 35 142 rfl (by decide) ?_
    exact z_vret 70 rfl rfl
def f_X9_next_8 (a0 : Nat) : Nat → zS → Option (Unit × zS)
  | 0, _ => none
  | n + 1, σ => zbr ((σ.1 a0 2) ≤ (σ.1 a0 3)) (f_X9_next_46 a0 σ) (zck (zok 101 (WC.2 (σ.2 a0 0)) (σ.1 a0 3)) (zbr ((σ.1 (σ.2 a0 0) (σ.1 a0 3).toNatClampNeg) = (32 : Int32)) (zlt (zpi σ a0 3 ((σ.1 a0 3) + (1 : Int32))) (fun σ14 => f_X9_next_8 a0 n σ14)) (f_X9_next_46 a0 σ)))
theorem t_X9_next_8 (X : zX) (d : Nat) (hd : 2 ≤ d + 1) (a0 : Nat) (h0 : WC.2 a0 = (9, 0)) : ∀ (n : Nat)  (σ : zS), zK X WC (zrm (d + 1)) M_X9_next (zZ X WC zeV) 8 [some (.ref a0)] [] σ (f_X9_next_8 a0 n σ) := by
  intro n
  induction n with
  | zero => intro σ; exact z_none
  | succ n ih =>
    intro σ
    rw [f_X9_next_8]
    refine z_aload0 4 9 rfl rfl ?_
    refine z_getI 5 12 3 rfl rfl zf_X9_28 rfl h0 ?_
    refine z_aload0 6 13 rfl rfl ?_
    refine z_getI 7 16 2 rfl rfl zf_X9_19 rfl h0 ?_
    refine z_icmp_ge 8 19 46 rfl rfl (by decide) ?_ ?_
    · exact t_X9_next_46 X d hd a0 h0  σ
    · refine z_aload0 9 20 rfl rfl ?_
      refine z_getR 10 23 0 rfl rfl zf_X9_9 rfl h0 ?_
      refine z_aload0 11 24 rfl rfl ?_
      refine z_getI 12 27 3 rfl rfl zf_X9_28 rfl h0 ?_
      refine z_bald 13 28 rfl rfl ?_
      refine z_bipush 14 30 rfl rfl cb_32 ?_
      refine z_icmp_ne 15 33 46 rfl rfl (by decide) ?_ ?_
      · refine z_aload0 16 34 rfl rfl ?_
        refine z_dup 17 35 rfl rfl rfl ?_
        refine z_getI 18 38 3 rfl rfl zf_X9_28 rfl h0 ?_
        refine z_iconst 19 39 rfl rfl ci_1 ?_
        refine z_iadd 20 40 rfl rfl ?_
        refine z_putI 21 43 3 rfl rfl zf_X9_28 rfl rfl rfl h0 (fun σ14 => ?_)
        refine z_goto 22 8 rfl (by decide) ?_
        exact ih σ14
      · exact t_X9_next_46 X d hd a0 h0  σ
def f_X9_next (a0 : Nat) (σ : zS) : Option (Unit × zS) := zck (WC.2 a0 = (9, 0)) (zlt (zpi σ a0 3 (σ.1 a0 4)) (fun σ15 => f_X9_next_8 a0 FU σ15))
theorem c_X9_next (X : zX) (d : Nat) (hd : 2 ≤ d) (a0 : Nat) (σ : zS) : ∀ (r : Unit) (σ' : zS), f_X9_next a0 σ = some (r, σ') → zCN X WC d M_X9_next [.ref a0] σ (zeV r, σ') := by
  obtain ⟨d, rfl⟩ : ∃ e, d = e + 1 := ⟨d - 1, by omega⟩
  refine z_entry [.ref a0] (by decide +kernel) T_X9_next (Nat.le_of_ble_eq_true rfl) ?_
  show zK X WC (zrm (d + 1)) M_X9_next (zZ X WC zeV) 0 [some (.ref a0)] [] σ (f_X9_next a0 σ)
  unfold f_X9_next
  refine z_ck (fun h0 => ?_)
  refine z_aload0 0 1 rfl rfl ?_
  refine z_aload0 1 2 rfl rfl ?_
  refine z_getI 2 5 4 rfl rfl zf_X9_22 rfl h0 ?_
  refine z_putI 3 8 3 rfl rfl zf_X9_28 rfl rfl rfl h0 (fun σ15 => ?_)
  exact t_X9_next_8 X d hd a0 h0  FU σ15
def f_X9_start (a0 : Nat) (x1 : Int32) (σ : zS) : Option (Unit × zS) := zck (WC.2 a0 = (9, 0)) (zlt (zpi σ a0 2 x1) (fun σ1 => zlt (zpi σ1 a0 4 (0 : Int32)) (fun σ2 => zbd (f_X9_next a0 σ2) (fun r3 σ4 => some ((), σ4)))))
theorem c_X9_start (X : zX) (d : Nat) (hd : 3 ≤ d) (a0 : Nat) (x1 : Int32) (σ : zS) : ∀ (r : Unit) (σ' : zS), f_X9_start a0 x1 σ = some (r, σ') → zCN X WC d M_X9_start [.ref a0, .int x1] σ (zeV r, σ') := by
  obtain ⟨d, rfl⟩ : ∃ e, d = e + 1 := ⟨d - 1, by omega⟩
  refine z_entry [.ref a0, .int x1] (by decide +kernel) T_X9_start (Nat.le_of_ble_eq_true rfl) ?_
  show zK X WC (zrm (d + 1)) M_X9_start (zZ X WC zeV) 0 [some (.ref a0), some (.int x1)] [] σ (f_X9_start a0 x1 σ)
  unfold f_X9_start
  refine z_ck (fun h0 => ?_)
  refine z_aload0 0 1 rfl rfl ?_
  refine z_iload1 1 2 rfl rfl ?_
  refine z_putI 2 5 2 rfl rfl zf_X9_19 rfl rfl rfl h0 (fun σ1 => ?_)
  refine z_aload0 3 6 rfl rfl ?_
  refine z_iconst 4 7 rfl rfl ci_0 ?_
  refine z_putI 5 10 4 rfl rfl zf_X9_22 rfl rfl rfl h0 (fun σ2 => ?_)
  refine z_aload0 6 11 rfl rfl ?_
  refine z_cV0V 7 14 rfl rfl zl_X9_25 F_X9_next (zR_rm (by omega)) (c_X9_next X d (by omega) a0 σ2) ⟨by decide, rfl, rfl⟩ h0 rfl (Nat.le_of_ble_eq_true rfl) (fun r3 σ4 => ?_)
  exact z_vret 8 rfl rfl
def f_X9_isWord_28 (a0 : Nat) : Nat → Nat → Int32 → zS → Option (Int32 × zS)
  | 0, _, _, _ => none
  | n + 1, x1, x2, σ => zck (1000 ≤ x1 ∧ x1 < 1018) (zbr ((zslen x1) ≤ x2) (zck (zb (1 : Int32)) (some ((1 : Int32), σ))) (zck (zok 101 (WC.2 (σ.2 a0 0)) ((σ.1 a0 3) + x2)) (zck ((1000 ≤ x1 ∧ x1 < 1018) ∧ 0 ≤ x2.toInt ∧ x2.toInt < zlen.getD (x1 - 1000) 0) (zbr ((σ.1 (σ.2 a0 0) ((σ.1 a0 3) + x2).toNatClampNeg) = (zsch x1 x2)) (zlt (x2 + (1 : Int32)) (fun v3 => f_X9_isWord_28 a0 n x1 v3 σ)) (zck (zb (0 : Int32)) (some ((0 : Int32), σ)))))))
theorem t_X9_isWord_28 (X : zX) (d : Nat) (hd : 8 ≤ d + 1) (a0 : Nat) (h0 : WC.2 a0 = (9, 0)) : ∀ (n : Nat) (x1 : Nat) (x2 : Int32) (σ : zS), zK X WC (zrm (d + 1)) M_X9_isWord (zZ X WC zeI) 28 [some (.ref a0), some (.ref x1), some (.int x2)] [] σ (f_X9_isWord_28 a0 n x1 x2 σ) := by
  intro n
  induction n with
  | zero => intro x1 x2 σ; exact z_none
  | succ n ih =>
    intro x1 x2 σ
    rw [f_X9_isWord_28]
    refine z_iload2 16 29 rfl rfl ?_
    refine z_aload1 17 30 rfl rfl ?_
    refine z_ck (fun h1 => ?_)
    refine z_strlen 18 33 rfl rfl zl_X9_50 (zR_rm (by omega)) h1 rfl (Nat.le_of_ble_eq_true rfl) ?_
    refine z_icmp_ge 19 36 63 rfl rfl (by decide) ?_ ?_
    · refine z_iconst 35 64 rfl rfl ci_1 ?_
      exact z_zret 36 rfl rfl
    · refine z_aload0 20 37 rfl rfl ?_
      refine z_getR 21 40 0 rfl rfl zf_X9_9 rfl h0 ?_
      refine z_aload0 22 41 rfl rfl ?_
      refine z_getI 23 44 3 rfl rfl zf_X9_28 rfl h0 ?_
      refine z_iload2 24 45 rfl rfl ?_
      refine z_iadd 25 46 rfl rfl ?_
      refine z_bald 26 47 rfl rfl ?_
      refine z_aload1 27 48 rfl rfl ?_
      refine z_iload2 28 49 rfl rfl ?_
      refine z_ck (fun h2 => ?_)
      refine z_charAt 29 52 rfl rfl zl_X9_56 (zR_rm (by omega)) h2 rfl (Nat.le_of_ble_eq_true rfl) ?_
      refine z_icmp_eq 30 55 57 rfl rfl (by decide) ?_ ?_
      · refine z_iinc2 33 60 rfl rfl ci_1 rfl (fun v3 => ?_)
        refine z_goto 34 28 rfl (by decide) ?_
        exact ih x1 v3 σ
      · refine z_iconst 31 56 rfl rfl ci_0 ?_
        exact z_zret 32 rfl rfl
def f_X9_isWord (a0 : Nat) (x1 : Nat) (σ : zS) : Option (Int32 × zS) := zck (WC.2 a0 = (9, 0)) (zbr ((σ.1 a0 5) = (1 : Int32)) (zck (1000 ≤ x1 ∧ x1 < 1018) (zbr (((σ.1 a0 4) - (σ.1 a0 3)) = (zslen x1)) (zlt (0 : Int32) (fun v5 => f_X9_isWord_28 a0 FU x1 v5 σ)) (zck (zb (0 : Int32)) (some ((0 : Int32), σ))))) (zck (zb (0 : Int32)) (some ((0 : Int32), σ))))
theorem c_X9_isWord (X : zX) (d : Nat) (hd : 8 ≤ d) (a0 : Nat) (x1 : Nat) (σ : zS) : ∀ (r : Int32) (σ' : zS), f_X9_isWord a0 x1 σ = some (r, σ') → zCN X WC d M_X9_isWord [.ref a0, .ref x1] σ (zeI r, σ') := by
  obtain ⟨d, rfl⟩ : ∃ e, d = e + 1 := ⟨d - 1, by omega⟩
  refine z_entry [.ref a0, .ref x1] (by decide +kernel) T_X9_isWord (Nat.le_of_ble_eq_true rfl) ?_
  show zK X WC (zrm (d + 1)) M_X9_isWord (zZ X WC zeI) 0 [some (.ref a0), some (.ref x1), none] [] σ (f_X9_isWord a0 x1 σ)
  unfold f_X9_isWord
  refine z_ck (fun h0 => ?_)
  refine z_aload0 0 1 rfl rfl ?_
  refine z_getI 1 4 5 rfl rfl zf_X9_31 rfl h0 ?_
  refine z_iconst 2 5 rfl rfl ci_1 ?_
  refine z_icmp_ne 3 8 24 rfl rfl (by decide) ?_ ?_
  · refine z_aload0 4 9 rfl rfl ?_
    refine z_getI 5 12 4 rfl rfl zf_X9_22 rfl h0 ?_
    refine z_aload0 6 13 rfl rfl ?_
    refine z_getI 7 16 3 rfl rfl zf_X9_28 rfl h0 ?_
    refine z_isub 8 17 rfl rfl ?_
    refine z_aload1 9 18 rfl rfl ?_
    refine z_ck (fun h4 => ?_)
    refine z_strlen 10 21 rfl rfl zl_X9_50 (zR_rm (by omega)) h4 rfl (Nat.le_of_ble_eq_true rfl) ?_
    refine z_icmp_eq 11 24 26 rfl rfl (by decide) ?_ ?_
    · refine z_iconst 14 27 rfl rfl ci_0 ?_
      refine z_istore2 15 28 rfl rfl rfl (fun v5 => ?_)
      exact t_X9_isWord_28 X d hd a0 h0  FU x1 v5 σ
    · refine z_iconst 12 25 rfl rfl ci_0 ?_
      exact z_zret 13 rfl rfl
  · refine z_iconst 12 25 rfl rfl ci_0 ?_
    exact z_zret 13 rfl rfl
def f_X9_append_40 (a0 : Nat) (H3 : Int32 → Int32 → zS → Option (Unit × zS)) (x1 : Int32) (x2 : Int32) (σ : zS) : Option (Unit × zS) := zlt (x2 + (-8 : Int32)) (fun v1 => H3 x1 v1 σ)
theorem t_X9_append_40 (X : zX) (d : Nat) (a0 : Nat) (h0 : WC.2 a0 = (9, 0)) (H3 : Int32 → Int32 → zS → Option (Unit × zS)) (hH3 : ∀ (x1 : Int32) (x2 : Int32) (σ : zS), zK X WC (zrm d) M_X9_append (zZ X WC zeV) 3 [some (.ref a0), some (.int x1), some (.int x2)] [] σ (H3 x1 x2 σ)) (x1 : Int32) (x2 : Int32) (σ : zS) : zK X WC (zrm d) M_X9_append (zZ X WC zeV) 40 [some (.ref a0), some (.int x1), some (.int x2)] [] σ (f_X9_append_40 a0 H3 x1 x2 σ) := by
  unfold f_X9_append_40
  refine z_iinc2 23 43 rfl rfl ci_m8 rfl (fun v1 => ?_)
  refine z_goto 24 3 rfl (by decide) ?_
  exact hH3 x1 v1 σ
def f_X9_append_3 (a0 : Nat) : Nat → Int32 → Int32 → zS → Option (Unit × zS)
  | 0, _, _, _ => none
  | n + 1, x1, x2, σ => zbr (x2 < 0) (some ((), σ)) (zbr ((900 : Int32) ≤ (σ.1 a0 1)) (f_X9_append_40 a0 (f_X9_append_3 a0 n) x1 x2 σ) (zck (zok 101 (WC.2 (σ.2 a0 0)) (σ.1 a0 1)) (zlt (zpi σ (σ.2 a0 0) (σ.1 a0 1).toNatClampNeg (vp_nar .byte ((x1 >>> (x2 &&& 31)).toInt8.toInt32))) (fun σ2 => zlt (zpi σ2 a0 1 ((σ2.1 a0 1) + (1 : Int32))) (fun σ3 => f_X9_append_40 a0 (f_X9_append_3 a0 n) x1 x2 σ3)))))
theorem t_X9_append_3 (X : zX) (d : Nat) (a0 : Nat) (h0 : WC.2 a0 = (9, 0)) : ∀ (n : Nat) (x1 : Int32) (x2 : Int32) (σ : zS), zK X WC (zrm d) M_X9_append (zZ X WC zeV) 3 [some (.ref a0), some (.int x1), some (.int x2)] [] σ (f_X9_append_3 a0 n x1 x2 σ) := by
  intro n
  induction n with
  | zero => intro x1 x2 σ; exact z_none
  | succ n ih =>
    intro x1 x2 σ
    rw [f_X9_append_3]
    refine z_iload2 2 4 rfl rfl ?_
    refine z_if_lt 3 7 46 rfl rfl (by decide) ?_ ?_
    · exact z_vret 25 rfl rfl
    · refine z_aload0 4 8 rfl rfl ?_
      refine z_getI 5 11 1 rfl rfl zf_X9_15 rfl h0 ?_
      refine z_sipush 6 14 rfl rfl cs_900 ?_
      refine z_icmp_ge 7 17 40 rfl rfl (by decide) ?_ ?_
      · exact t_X9_append_40 X d a0 h0 (f_X9_append_3 a0 n) ih x1 x2 σ
      · refine z_aload0 8 18 rfl rfl ?_
        refine z_getR 9 21 0 rfl rfl zf_X9_9 rfl h0 ?_
        refine z_aload0 10 22 rfl rfl ?_
        refine z_getI 11 25 1 rfl rfl zf_X9_15 rfl h0 ?_
        refine z_iload1 12 26 rfl rfl ?_
        refine z_iload2 13 27 rfl rfl ?_
        refine z_ishr 14 28 rfl rfl ?_
        refine z_i2b 15 29 rfl rfl ?_
        refine z_bast 16 30 rfl rfl (fun σ2 => ?_)
        refine z_aload0 17 31 rfl rfl ?_
        refine z_dup 18 32 rfl rfl rfl ?_
        refine z_getI 19 35 1 rfl rfl zf_X9_15 rfl h0 ?_
        refine z_iconst 20 36 rfl rfl ci_1 ?_
        refine z_iadd 21 37 rfl rfl ?_
        refine z_putI 22 40 1 rfl rfl zf_X9_15 rfl rfl rfl h0 (fun σ3 => ?_)
        exact t_X9_append_40 X d a0 h0 (f_X9_append_3 a0 n) ih x1 x2 σ3
def f_X9_append (a0 : Nat) (x1 : Int32) (σ : zS) : Option (Unit × zS) := zck (WC.2 a0 = (9, 0)) (zlt (24 : Int32) (fun v4 => f_X9_append_3 a0 FU x1 v4 σ))
theorem c_X9_append (X : zX) (d : Nat) (a0 : Nat) (x1 : Int32) (σ : zS) : ∀ (r : Unit) (σ' : zS), f_X9_append a0 x1 σ = some (r, σ') → zCN X WC d M_X9_append [.ref a0, .int x1] σ (zeV r, σ') := by
  refine z_entry [.ref a0, .int x1] (by decide +kernel) T_X9_append (Nat.le_of_ble_eq_true rfl) ?_
  show zK X WC (zrm d) M_X9_append (zZ X WC zeV) 0 [some (.ref a0), some (.int x1), none] [] σ (f_X9_append a0 x1 σ)
  unfold f_X9_append
  refine z_ck (fun h0 => ?_)
  refine z_bipush 0 2 rfl rfl cb_24 ?_
  refine z_istore2 1 3 rfl rfl rfl (fun v4 => ?_)
  exact t_X9_append_3 X d a0 h0  FU x1 v4 σ
