def f_J7_fill_5 (w : zW) : Nat → Nat → Int32 → Int32 → Int32 → zS → Option (Unit × zS)
  | 0, _, _, _, _, _ => none
  | n + 1, x0, x1, x2, x3, σ => zbr (x3 ≤ x2) (some ((), σ)) (zck (zok 100 (w.2 x0) x2) (zlt (zpi σ x0 x2.toNatClampNeg x1) (fun σ1 => zlt (x2 + (1 : Int32)) (fun v2 => f_J7_fill_5 w n x0 x1 v2 x3 σ1))))
theorem t_J7_fill_5 (X : zX) (w : zW) (d : Nat) : ∀ (n : Nat) (x0 : Nat) (x1 : Int32) (x2 : Int32) (x3 : Int32) (σ : zS), zK X w (zrm d) M_J7_fill (zZ X w zeV) 5 [some (.ref x0), some (.int x1), some (.int x2), some (.int x3)] [] σ (f_J7_fill_5 w n x0 x1 x2 x3 σ) := by
  intro n
  induction n with
  | zero => intro x0 x1 x2 x3 σ; exact z_none
  | succ n ih =>
    intro x0 x1 x2 x3 σ
    rw [f_J7_fill_5]
    refine z_iload2 5 6 rfl rfl ?_
    refine z_iload3 6 7 rfl rfl ?_
    refine z_icmp_ge 7 10 20 rfl rfl (by decide) ?_ ?_
    · exact z_vret 14 rfl rfl
    · refine z_aload0 8 11 rfl rfl ?_
      refine z_iload2 9 12 rfl rfl ?_
      refine z_iload1 10 13 rfl rfl ?_
      refine z_iast 11 14 rfl rfl (fun σ1 => ?_)
      refine z_iinc2 12 17 rfl rfl ci_1 rfl (fun v2 => ?_)
      refine z_goto 13 5 rfl (by decide) ?_
      exact ih x0 x1 v2 x3 σ1
def f_J7_fill (w : zW) (x0 : Nat) (x1 : Int32) (σ : zS) : Option (Unit × zS) := zlt (0 : Int32) (fun v3 => zck ((w.2 x0).1 = 100) (zlt (Int32.ofNat (w.2 x0).2) (fun v5 => f_J7_fill_5 w FU x0 x1 v3 v5 σ)))
theorem c_J7_fill (X : zX) (w : zW) (d : Nat) (x0 : Nat) (x1 : Int32) (σ : zS) : ∀ (r : Unit) (σ' : zS), f_J7_fill w x0 x1 σ = some (r, σ') → zCN X w d M_J7_fill [.ref x0, .int x1] σ (zeV r, σ') := by
  refine z_entry [.ref x0, .int x1] (by decide +kernel) T_J7_fill (Nat.le_of_ble_eq_true rfl) ?_
  show zK X w (zrm d) M_J7_fill (zZ X w zeV) 0 [some (.ref x0), some (.int x1), none, none] [] σ (f_J7_fill w x0 x1 σ)
  unfold f_J7_fill
  refine z_iconst 0 1 rfl rfl ci_0 ?_
  refine z_istore2 1 2 rfl rfl rfl (fun v3 => ?_)
  refine z_aload0 2 3 rfl rfl ?_
  refine z_ck (fun h4 => ?_)
  refine z_alen 3 4 rfl rfl h4 ?_
  refine z_istore3 4 5 rfl rfl rfl (fun v5 => ?_)
  exact t_J7_fill_5 X w d  FU x0 x1 v3 v5 σ
def f_J6_bitCount (w : zW) (x0 : Int32) (σ : zS) : Option (Int32 × zS) := zlt (x0 - (((x0.toUInt32 >>> ((1 : Int32).toUInt32 &&& Int32.toUInt32 31)).toInt32) &&& (1431655765 : Int32))) (fun v1 => zlt ((v1 &&& (858993459 : Int32)) + (((v1.toUInt32 >>> ((2 : Int32).toUInt32 &&& Int32.toUInt32 31)).toInt32) &&& (858993459 : Int32))) (fun v2 => zlt ((v2 + ((v2.toUInt32 >>> ((4 : Int32).toUInt32 &&& Int32.toUInt32 31)).toInt32)) &&& (252645135 : Int32)) (fun v3 => zlt (v3 + ((v3.toUInt32 >>> ((8 : Int32).toUInt32 &&& Int32.toUInt32 31)).toInt32)) (fun v4 => zlt (v4 + ((v4.toUInt32 >>> ((16 : Int32).toUInt32 &&& Int32.toUInt32 31)).toInt32)) (fun v5 => some ((v5 &&& (63 : Int32)), σ))))))
theorem c_J6_bitCount (X : zX) (w : zW) (d : Nat) (x0 : Int32) (σ : zS) : ∀ (r : Int32) (σ' : zS), f_J6_bitCount w x0 σ = some (r, σ') → zCN X w d M_J6_bitCount [.int x0] σ (zeI r, σ') := by
  refine z_entry [.int x0] (by decide +kernel) T_J6_bitCount (Nat.le_of_ble_eq_true rfl) ?_
  show zK X w (zrm d) M_J6_bitCount (zZ X w zeI) 0 [some (.int x0)] [] σ (f_J6_bitCount w x0 σ)
  unfold f_J6_bitCount
  refine z_iload0 0 1 rfl rfl ?_
  refine z_iload0 1 2 rfl rfl ?_
  refine z_iconst 2 3 rfl rfl ci_1 ?_
  refine z_iushr 3 4 rfl rfl ?_
  refine z_ldcwI 4 7 rfl rfl (v := (1431655765 : Int32)) (zTT_in (i := 898) (by decide +kernel) rfl) ?_
  refine z_iand 5 8 rfl rfl ?_
  refine z_isub 6 9 rfl rfl ?_
  refine z_istore0 7 10 rfl rfl (fun v1 => ?_)
  refine z_iload0 8 11 rfl rfl ?_
  refine z_ldcwI 9 14 rfl rfl (v := (858993459 : Int32)) (zTT_in (i := 899) (by decide +kernel) rfl) ?_
  refine z_iand 10 15 rfl rfl ?_
  refine z_iload0 11 16 rfl rfl ?_
  refine z_iconst 12 17 rfl rfl ci_2 ?_
  refine z_iushr 13 18 rfl rfl ?_
  refine z_ldcwI 14 21 rfl rfl (v := (858993459 : Int32)) (zTT_in (i := 899) (by decide +kernel) rfl) ?_
  refine z_iand 15 22 rfl rfl ?_
  refine z_iadd 16 23 rfl rfl ?_
  refine z_istore0 17 24 rfl rfl (fun v2 => ?_)
  refine z_iload0 18 25 rfl rfl ?_
  refine z_iload0 19 26 rfl rfl ?_
  refine z_iconst 20 27 rfl rfl ci_4 ?_
  refine z_iushr 21 28 rfl rfl ?_
  refine z_iadd 22 29 rfl rfl ?_
  refine z_ldcwI 23 32 rfl rfl (v := (252645135 : Int32)) (zTT_in (i := 900) (by decide +kernel) rfl) ?_
  refine z_iand 24 33 rfl rfl ?_
  refine z_istore0 25 34 rfl rfl (fun v3 => ?_)
  refine z_iload0 26 35 rfl rfl ?_
  refine z_iload0 27 36 rfl rfl ?_
  refine z_bipush 28 38 rfl rfl cb_8 ?_
  refine z_iushr 29 39 rfl rfl ?_
  refine z_iadd 30 40 rfl rfl ?_
  refine z_istore0 31 41 rfl rfl (fun v4 => ?_)
  refine z_iload0 32 42 rfl rfl ?_
  refine z_iload0 33 43 rfl rfl ?_
  refine z_bipush 34 45 rfl rfl cb_16 ?_
  refine z_iushr 35 46 rfl rfl ?_
  refine z_iadd 36 47 rfl rfl ?_
  refine z_istore0 37 48 rfl rfl (fun v5 => ?_)
  refine z_iload0 38 49 rfl rfl ?_
  refine z_bipush 39 51 rfl rfl cb_63 ?_
  refine z_iand 40 52 rfl rfl ?_
  exact z_iret 41 rfl rfl
