def f_X11_thrown (a0 : Nat) (σ : zS) : Option (Int32 × zS) := zck (WM.2 a0 = (11, 0)) (some ((σ.1 a0 0), σ))
theorem c_X11_thrown (X : zX) (d : Nat) (a0 : Nat) (σ : zS) : ∀ (r : Int32) (σ' : zS), f_X11_thrown a0 σ = some (r, σ') → zCN X WM d M_X11_thrown [.ref a0] σ (zeI r, σ') := by
  refine z_entry [.ref a0] (by decide +kernel) T_X11_thrown (Nat.le_of_ble_eq_true rfl) ?_
  show zK X WM (zrm d) M_X11_thrown (zZ X WM zeI) 0 [some (.ref a0)] [] σ (f_X11_thrown a0 σ)
  unfold f_X11_thrown
  refine z_ck (fun h0 => ?_)
  refine z_aload0 0 1 rfl rfl ?_
  refine z_getI 1 4 0 rfl rfl zf_X11_65 rfl h0 ?_
  exact z_iret 2 rfl rfl
def f_X11_good (a0 : Nat) (σ : zS) : Option (Unit × zS) := zck (WM.2 a0 = (11, 0)) (zlt (zpi σ a0 0 (0 : Int32)) (fun σ1 => zlt (zpi σ1 a0 11 (0 : Int32)) (fun σ2 => some ((), σ2))))
theorem c_X11_good (X : zX) (d : Nat) (a0 : Nat) (σ : zS) : ∀ (r : Unit) (σ' : zS), f_X11_good a0 σ = some (r, σ') → zCN X WM d M_X11_good [.ref a0] σ (zeV r, σ') := by
  refine z_entry [.ref a0] (by decide +kernel) T_X11_good (Nat.le_of_ble_eq_true rfl) ?_
  show zK X WM (zrm d) M_X11_good (zZ X WM zeV) 0 [some (.ref a0)] [] σ (f_X11_good a0 σ)
  unfold f_X11_good
  refine z_ck (fun h0 => ?_)
  refine z_aload0 0 1 rfl rfl ?_
  refine z_iconst 1 2 rfl rfl ci_0 ?_
  refine z_putI 2 5 0 rfl rfl zf_X11_65 rfl rfl rfl h0 (fun σ1 => ?_)
  refine z_aload0 3 6 rfl rfl ?_
  refine z_iconst 4 7 rfl rfl ci_0 ?_
  refine z_putI 5 10 11 rfl rfl zf_X11_68 rfl rfl rfl h0 (fun σ2 => ?_)
  exact z_vret 6 rfl rfl
def f_X11_no (a0 : Nat) (x1 : Int32) (σ : zS) : Option (Int32 × zS) := zck (WM.2 a0 = (11, 0)) (zlt (zpi σ a0 11 x1) (fun σ1 => some ((-1 : Int32), σ1)))
theorem c_X11_no (X : zX) (d : Nat) (a0 : Nat) (x1 : Int32) (σ : zS) : ∀ (r : Int32) (σ' : zS), f_X11_no a0 x1 σ = some (r, σ') → zCN X WM d M_X11_no [.ref a0, .int x1] σ (zeI r, σ') := by
  refine z_entry [.ref a0, .int x1] (by decide +kernel) T_X11_no (Nat.le_of_ble_eq_true rfl) ?_
  show zK X WM (zrm d) M_X11_no (zZ X WM zeI) 0 [some (.ref a0), some (.int x1)] [] σ (f_X11_no a0 x1 σ)
  unfold f_X11_no
  refine z_ck (fun h0 => ?_)
  refine z_aload0 0 1 rfl rfl ?_
  refine z_iload1 1 2 rfl rfl ?_
  refine z_putI 2 5 11 rfl rfl zf_X11_68 rfl rfl rfl h0 (fun σ1 => ?_)
  refine z_iconst 3 6 rfl rfl ci_m1 ?_
  exact z_iret 4 rfl rfl
def f_X11_isNot (a0 : Nat) (x1 : Int32) (σ : zS) : Option (Int32 × zS) := zck (WM.2 a0 = (11, 0)) (zlt (zpi σ a0 11 x1) (fun σ1 => zck (zb (0 : Int32)) (some ((0 : Int32), σ1))))
theorem c_X11_isNot (X : zX) (d : Nat) (a0 : Nat) (x1 : Int32) (σ : zS) : ∀ (r : Int32) (σ' : zS), f_X11_isNot a0 x1 σ = some (r, σ') → zCN X WM d M_X11_isNot [.ref a0, .int x1] σ (zeI r, σ') := by
  refine z_entry [.ref a0, .int x1] (by decide +kernel) T_X11_isNot (Nat.le_of_ble_eq_true rfl) ?_
  show zK X WM (zrm d) M_X11_isNot (zZ X WM zeI) 0 [some (.ref a0), some (.int x1)] [] σ (f_X11_isNot a0 x1 σ)
  unfold f_X11_isNot
  refine z_ck (fun h0 => ?_)
  refine z_aload0 0 1 rfl rfl ?_
  refine z_iload1 1 2 rfl rfl ?_
  refine z_putI 2 5 11 rfl rfl zf_X11_68 rfl rfl rfl h0 (fun σ1 => ?_)
  refine z_iconst 3 6 rfl rfl ci_0 ?_
  exact z_zret 4 rfl rfl
def f_X11_in (x0 : Int32) (x1 : Int32) (x2 : Int32) (σ : zS) : Option (Int32 × zS) := zbr (x0 < x1) (zck (zb (0 : Int32)) (some ((0 : Int32), σ))) (zbr (x2 < x0) (zck (zb (0 : Int32)) (some ((0 : Int32), σ))) (zck (zb (1 : Int32)) (some ((1 : Int32), σ))))
theorem c_X11_in (X : zX) (d : Nat) (x0 : Int32) (x1 : Int32) (x2 : Int32) (σ : zS) : ∀ (r : Int32) (σ' : zS), f_X11_in x0 x1 x2 σ = some (r, σ') → zCN X WM d M_X11_in [.int x0, .int x1, .int x2] σ (zeI r, σ') := by
  refine z_entry [.int x0, .int x1, .int x2] (by decide +kernel) T_X11_in (Nat.le_of_ble_eq_true rfl) ?_
  show zK X WM (zrm d) M_X11_in (zZ X WM zeI) 0 [some (.int x0), some (.int x1), some (.int x2)] [] σ (f_X11_in x0 x1 x2 σ)
  unfold f_X11_in
  refine z_iload0 0 1 rfl rfl ?_
  refine z_iload1 1 2 rfl rfl ?_
  refine z_icmp_lt 2 5 14 rfl rfl (by decide) ?_ ?_
  · refine z_iconst 8 15 rfl rfl ci_0 ?_
    exact z_zret 9 rfl rfl
  · refine z_iload0 3 6 rfl rfl ?_
    refine z_iload2 4 7 rfl rfl ?_
    refine z_icmp_gt 5 10 14 rfl rfl (by decide) ?_ ?_
    · refine z_iconst 8 15 rfl rfl ci_0 ?_
      exact z_zret 9 rfl rfl
    · refine z_iconst 6 11 rfl rfl ci_1 ?_
      refine z_goto 7 15 rfl (by decide) ?_
      exact z_zret 9 rfl rfl
def f_X11_hasBit (x0 : Int32) (x1 : Int32) (σ : zS) : Option (Int32 × zS) := zbr (((x0 >>> (x1 &&& 31)) &&& (1 : Int32)) = (1 : Int32)) (zck (zb (1 : Int32)) (some ((1 : Int32), σ))) (zck (zb (0 : Int32)) (some ((0 : Int32), σ)))
theorem c_X11_hasBit (X : zX) (d : Nat) (x0 : Int32) (x1 : Int32) (σ : zS) : ∀ (r : Int32) (σ' : zS), f_X11_hasBit x0 x1 σ = some (r, σ') → zCN X WM d M_X11_hasBit [.int x0, .int x1] σ (zeI r, σ') := by
  refine z_entry [.int x0, .int x1] (by decide +kernel) T_X11_hasBit (Nat.le_of_ble_eq_true rfl) ?_
  show zK X WM (zrm d) M_X11_hasBit (zZ X WM zeI) 0 [some (.int x0), some (.int x1)] [] σ (f_X11_hasBit x0 x1 σ)
  unfold f_X11_hasBit
  refine z_iload0 0 1 rfl rfl ?_
  refine z_iload1 1 2 rfl rfl ?_
  refine z_ishr 2 3 rfl rfl ?_
  refine z_iconst 3 4 rfl rfl ci_1 ?_
  refine z_iand 4 5 rfl rfl ?_
  refine z_iconst 5 6 rfl rfl ci_1 ?_
  refine z_icmp_ne 6 9 13 rfl rfl (by decide) ?_ ?_
  · refine z_iconst 7 10 rfl rfl ci_1 ?_
    refine z_goto 8 14 rfl (by decide) ?_
    exact z_zret 10 rfl rfl
  · refine z_iconst 9 14 rfl rfl ci_0 ?_
    exact z_zret 10 rfl rfl
def f_X11_ones_4 : Nat → Int32 → Int32 → Int32 → zS → Option (Int32 × zS)
  | 0, _, _, _, _ => none
  | n + 1, x0, x1, x2, σ => zbr ((8 : Int32) ≤ x2) (some (x1, σ)) (zlt (x1 + ((x0 >>> (x2 &&& 31)) &&& (1 : Int32))) (fun v1 => zlt (x2 + (1 : Int32)) (fun v2 => f_X11_ones_4 n x0 v1 v2 σ)))
theorem t_X11_ones_4 (X : zX) (d : Nat) : ∀ (n : Nat) (x0 : Int32) (x1 : Int32) (x2 : Int32) (σ : zS), zK X WM (zrm d) M_X11_ones (zZ X WM zeI) 4 [some (.int x0), some (.int x1), some (.int x2)] [] σ (f_X11_ones_4 n x0 x1 x2 σ) := by
  intro n
  induction n with
  | zero => intro x0 x1 x2 σ; exact z_none
  | succ n ih =>
    intro x0 x1 x2 σ
    rw [f_X11_ones_4]
    refine z_iload2 4 5 rfl rfl ?_
    refine z_bipush 5 7 rfl rfl cb_8 ?_
    refine z_icmp_ge 6 10 24 rfl rfl (by decide) ?_ ?_
    · refine z_iload1 17 25 rfl rfl ?_
      exact z_iret 18 rfl rfl
    · refine z_iload1 7 11 rfl rfl ?_
      refine z_iload0 8 12 rfl rfl ?_
      refine z_iload2 9 13 rfl rfl ?_
      refine z_ishr 10 14 rfl rfl ?_
      refine z_iconst 11 15 rfl rfl ci_1 ?_
      refine z_iand 12 16 rfl rfl ?_
      refine z_iadd 13 17 rfl rfl ?_
      refine z_istore1 14 18 rfl rfl rfl (fun v1 => ?_)
      refine z_iinc2 15 21 rfl rfl ci_1 rfl (fun v2 => ?_)
      refine z_goto 16 4 rfl (by decide) ?_
      exact ih x0 v1 v2 σ
def f_X11_ones (x0 : Int32) (σ : zS) : Option (Int32 × zS) := zlt (0 : Int32) (fun v3 => zlt (0 : Int32) (fun v4 => f_X11_ones_4 FU x0 v3 v4 σ))
theorem c_X11_ones (X : zX) (d : Nat) (x0 : Int32) (σ : zS) : ∀ (r : Int32) (σ' : zS), f_X11_ones x0 σ = some (r, σ') → zCN X WM d M_X11_ones [.int x0] σ (zeI r, σ') := by
  refine z_entry [.int x0] (by decide +kernel) T_X11_ones (Nat.le_of_ble_eq_true rfl) ?_
  show zK X WM (zrm d) M_X11_ones (zZ X WM zeI) 0 [some (.int x0), none, none] [] σ (f_X11_ones x0 σ)
  unfold f_X11_ones
  refine z_iconst 0 1 rfl rfl ci_0 ?_
  refine z_istore1 1 2 rfl rfl rfl (fun v3 => ?_)
  refine z_iconst 2 3 rfl rfl ci_0 ?_
  refine z_istore2 3 4 rfl rfl rfl (fun v4 => ?_)
  exact t_X11_ones_4 X d  FU x0 v3 v4 σ
def f_X11_copy_3 : Nat → Nat → Int32 → Nat → Int32 → Int32 → Int32 → zS → Option (Unit × zS)
  | 0, _, _, _, _, _, _, _ => none
  | n + 1, x0, x1, x2, x3, x4, x5, σ => zbr (x4 ≤ x5) (some ((), σ)) (zck (zok 100 (WM.2 x0) (x1 + x5)) (zck (zok 100 (WM.2 x2) (x3 + x5)) (zlt (zpi σ x2 (x3 + x5).toNatClampNeg (σ.1 x0 (x1 + x5).toNatClampNeg)) (fun σ1 => zlt (x5 + (1 : Int32)) (fun v2 => f_X11_copy_3 n x0 x1 x2 x3 x4 v2 σ1)))))
theorem t_X11_copy_3 (X : zX) (d : Nat) : ∀ (n : Nat) (x0 : Nat) (x1 : Int32) (x2 : Nat) (x3 : Int32) (x4 : Int32) (x5 : Int32) (σ : zS), zK X WM (zrm d) M_X11_copy (zZ X WM zeV) 3 [some (.ref x0), some (.int x1), some (.ref x2), some (.int x3), some (.int x4), some (.int x5)] [] σ (f_X11_copy_3 n x0 x1 x2 x3 x4 x5 σ) := by
  intro n
  induction n with
  | zero => intro x0 x1 x2 x3 x4 x5 σ; exact z_none
  | succ n ih =>
    intro x0 x1 x2 x3 x4 x5 σ
    rw [f_X11_copy_3]
    refine z_iload5 2 5 rfl rfl ?_
    refine z_iload4 3 7 rfl rfl ?_
    refine z_icmp_ge 4 10 28 rfl rfl (by decide) ?_ ?_
    · exact z_vret 17 rfl rfl
    · refine z_aload2 5 11 rfl rfl ?_
      refine z_iload3 6 12 rfl rfl ?_
      refine z_iload5 7 14 rfl rfl ?_
      refine z_iadd 8 15 rfl rfl ?_
      refine z_aload0 9 16 rfl rfl ?_
      refine z_iload1 10 17 rfl rfl ?_
      refine z_iload5 11 19 rfl rfl ?_
      refine z_iadd 12 20 rfl rfl ?_
      refine z_iald 13 21 rfl rfl ?_
      refine z_iast 14 22 rfl rfl (fun σ1 => ?_)
      refine z_iinc5 15 25 rfl rfl ci_1 rfl (fun v2 => ?_)
      refine z_goto 16 3 rfl (by decide) ?_
      exact ih x0 x1 x2 x3 x4 v2 σ1
def f_X11_copy (x0 : Nat) (x1 : Int32) (x2 : Nat) (x3 : Int32) (x4 : Int32) (σ : zS) : Option (Unit × zS) := zlt (0 : Int32) (fun v3 => f_X11_copy_3 FU x0 x1 x2 x3 x4 v3 σ)
theorem c_X11_copy (X : zX) (d : Nat) (x0 : Nat) (x1 : Int32) (x2 : Nat) (x3 : Int32) (x4 : Int32) (σ : zS) : ∀ (r : Unit) (σ' : zS), f_X11_copy x0 x1 x2 x3 x4 σ = some (r, σ') → zCN X WM d M_X11_copy [.ref x0, .int x1, .ref x2, .int x3, .int x4] σ (zeV r, σ') := by
  refine z_entry [.ref x0, .int x1, .ref x2, .int x3, .int x4] (by decide +kernel) T_X11_copy (Nat.le_of_ble_eq_true rfl) ?_
  show zK X WM (zrm d) M_X11_copy (zZ X WM zeV) 0 [some (.ref x0), some (.int x1), some (.ref x2), some (.int x3), some (.int x4), none] [] σ (f_X11_copy x0 x1 x2 x3 x4 σ)
  unfold f_X11_copy
  refine z_iconst 0 1 rfl rfl ci_0 ?_
  refine z_istore5 1 3 rfl rfl rfl (fun v3 => ?_)
  exact t_X11_copy_3 X d  FU x0 x1 x2 x3 x4 v3 σ
def f_X11_lowest_6 : Nat → Int64 → Int64 → Int32 → Int64 → Int64 → zS → Option (Int64 × zS)
  | 0, _, _, _, _, _, _ => none
  | n + 1, x0, x2, x4, x5, x7, σ => zbr ((lg_cmp x7 (0 : Int64)) = 0) (zbr (x4 = 0) (zck (¬ x5 = 0) (some ((x0 / x5), σ))) (zck (¬ x5 = 0) (some ((x2 / x5), σ)))) (zck (¬ x7 = 0) (zlt (x5 - x5 / x7 * x7) (fun v4 => zlt x7 (fun v5 => zlt v4 (fun v6 => f_X11_lowest_6 n x0 x2 x4 v5 v6 σ)))))
theorem t_X11_lowest_6 (X : zX) (d : Nat) : ∀ (n : Nat) (x0 : Int64) (x2 : Int64) (x4 : Int32) (x5 : Int64) (x7 : Int64) (σ : zS), zK X WM (zrm d) M_X11_lowest (zZ X WM zeL) 6 [some (.long x0), none, some (.long x2), none, some (.int x4), some (.long x5), none, some (.long x7), none, none, none] [] σ (f_X11_lowest_6 n x0 x2 x4 x5 x7 σ) := by
  intro n
  induction n with
  | zero => intro x0 x2 x4 x5 x7 σ; exact z_none
  | succ n ih =>
    intro x0 x2 x4 x5 x7 σ
    rw [f_X11_lowest_6]
    refine z_lload7 4 8 rfl rfl ?_
    refine z_lconst 5 9 rfl rfl cl_0 ?_
    refine z_lcmp 6 10 rfl rfl ?_
    refine z_if_eq 7 13 31 rfl rfl (by decide) ?_ ?_
    · refine z_iload4 17 33 rfl rfl ?_
      refine z_if_eq 18 36 40 rfl rfl (by decide) ?_ ?_
      · refine z_lload0 21 41 rfl rfl ?_
        refine z_lload5 22 43 rfl rfl ?_
        refine z_ck (fun h1 => ?_)
        refine z_ldiv 23 44 rfl rfl h1 ?_
        exact z_lret 24 rfl rfl
      · refine z_lload2 19 37 rfl rfl ?_
        refine z_goto 20 41 rfl (by decide) ?_
        refine z_lload5 22 43 rfl rfl ?_
        refine z_ck (fun h2 => ?_)
        refine z_ldiv 23 44 rfl rfl h2 ?_
        exact z_lret 24 rfl rfl
    · refine z_lload5 8 15 rfl rfl ?_
      refine z_lload7 9 17 rfl rfl ?_
      refine z_ck (fun h3 => ?_)
      refine z_lrem 10 18 rfl rfl h3 ?_
      refine z_lstore9 11 20 rfl rfl rfl (fun v4 => ?_)
      refine z_lload7 12 22 rfl rfl ?_
      refine z_lstore5 13 24 rfl rfl rfl (fun v5 => ?_)
      refine z_lload9 14 26 rfl rfl ?_
      refine z_lstore7 15 28 rfl rfl rfl (fun v6 => ?_)
      refine z_goto 16 6 rfl (by decide) ?_
      exact z_wk (zle_e (zle_e (zle_e (zle_e (zle_e (zle_e (zle_e (zle_e (zle_e (zle_n (zle_e zle_0))))))))))) (ih x0 x2 x4 v5 v6 σ)
def f_X11_lowest (x0 : Int64) (x2 : Int64) (x4 : Int32) (σ : zS) : Option (Int64 × zS) := zlt x2 (fun v7 => zlt x0 (fun v8 => f_X11_lowest_6 FU x0 x2 x4 v7 v8 σ))
theorem c_X11_lowest (X : zX) (d : Nat) (x0 : Int64) (x2 : Int64) (x4 : Int32) (σ : zS) : ∀ (r : Int64) (σ' : zS), f_X11_lowest x0 x2 x4 σ = some (r, σ') → zCN X WM d M_X11_lowest [.long x0, .long x2, .int x4] σ (zeL r, σ') := by
  refine z_entry [.long x0, .long x2, .int x4] (by decide +kernel) T_X11_lowest (Nat.le_of_ble_eq_true rfl) ?_
  show zK X WM (zrm d) M_X11_lowest (zZ X WM zeL) 0 [some (.long x0), none, some (.long x2), none, some (.int x4), none, none, none, none, none, none] [] σ (f_X11_lowest x0 x2 x4 σ)
  unfold f_X11_lowest
  refine z_lload2 0 1 rfl rfl ?_
  refine z_lstore5 1 3 rfl rfl rfl (fun v7 => ?_)
  refine z_lload0 2 4 rfl rfl ?_
  refine z_lstore7 3 6 rfl rfl rfl (fun v8 => ?_)
  exact t_X11_lowest_6 X d  FU x0 x2 x4 v7 v8 σ
def f_X11_feed_76 (a0 : Nat) (H23 : Int32 → Int32 → Int32 → Int32 → Int32 → Int32 → zS → Option (Int32 × zS)) (x1 : Int32) (x2 : Int32) (x3 : Int32) (x4 : Int32) (x5 : Int32) (x6 : Int32) (s0 : Int32) (σ : zS) : Option (Int32 × zS) := zlt s0 (fun v1 => zck (¬ (4 : Int32) = 0) (zck (zok 100 (WM.2 (σ.2 a0 1)) (σ.1 a0 2)) (zlt (zpi σ (σ.2 a0 1) (σ.1 a0 2).toNatClampNeg ((v1 >>> (((24 : Int32) - ((8 : Int32) * (x6 - x6 / (4 : Int32) * (4 : Int32)))) &&& 31)) &&& (255 : Int32))) (fun σ3 => zlt (zpi σ3 a0 2 ((σ3.1 a0 2) + (1 : Int32))) (fun σ4 => zlt (x6 + (1 : Int32)) (fun v5 => H23 x1 x2 x3 x4 x5 v5 σ4))))))
theorem t_X11_feed_76 (X : zX) (d : Nat) (a0 : Nat) (h0 : WM.2 a0 = (11, 0)) (H23 : Int32 → Int32 → Int32 → Int32 → Int32 → Int32 → zS → Option (Int32 × zS)) (hH23 : ∀ (x1 : Int32) (x2 : Int32) (x3 : Int32) (x4 : Int32) (x5 : Int32) (x6 : Int32) (σ : zS), zK X WM (zrm d) M_X11_feed (zZ X WM zeI) 23 [some (.ref a0), some (.int x1), some (.int x2), some (.int x3), some (.int x4), some (.int x5), some (.int x6), none] [] σ (H23 x1 x2 x3 x4 x5 x6 σ)) (x1 : Int32) (x2 : Int32) (x3 : Int32) (x4 : Int32) (x5 : Int32) (x6 : Int32) (s0 : Int32) (σ : zS) : zK X WM (zrm d) M_X11_feed (zZ X WM zeI) 76 [some (.ref a0), some (.int x1), some (.int x2), some (.int x3), some (.int x4), some (.int x5), some (.int x6), none] [.int s0] σ (f_X11_feed_76 a0 H23 x1 x2 x3 x4 x5 x6 s0 σ) := by
  unfold f_X11_feed_76
  refine z_istore7 37 78 rfl rfl rfl (fun v1 => ?_)
  refine z_aload0 38 79 rfl rfl ?_
  refine z_getR 39 82 1 rfl rfl zf_X11_7 rfl h0 ?_
  refine z_aload0 40 83 rfl rfl ?_
  refine z_getI 41 86 2 rfl rfl zf_X11_71 rfl h0 ?_
  refine z_iload7 42 88 rfl rfl ?_
  refine z_bipush 43 90 rfl rfl cb_24 ?_
  refine z_bipush 44 92 rfl rfl cb_8 ?_
  refine z_iload6 45 94 rfl rfl ?_
  refine z_iconst 46 95 rfl rfl ci_4 ?_
  refine z_ck (fun h2 => ?_)
  refine z_irem 47 96 rfl rfl h2 ?_
  refine z_imul 48 97 rfl rfl ?_
  refine z_isub 49 98 rfl rfl ?_
  refine z_ishr 50 99 rfl rfl ?_
  refine z_sipush 51 102 rfl rfl cs_255 ?_
  refine z_iand 52 103 rfl rfl ?_
  refine z_iast 53 104 rfl rfl (fun σ3 => ?_)
  refine z_aload0 54 105 rfl rfl ?_
  refine z_dup 55 106 rfl rfl rfl ?_
  refine z_getI 56 109 2 rfl rfl zf_X11_71 rfl h0 ?_
  refine z_iconst 57 110 rfl rfl ci_1 ?_
  refine z_iadd 58 111 rfl rfl ?_
  refine z_putI 59 114 2 rfl rfl zf_X11_71 rfl rfl rfl h0 (fun σ4 => ?_)
  refine z_iinc6 60 117 rfl rfl ci_1 rfl (fun v5 => ?_)
  refine z_goto 61 23 rfl (by decide) ?_
  exact z_wk (zle_e (zle_e (zle_e (zle_e (zle_e (zle_e (zle_e (zle_n zle_0)))))))) (hH23 x1 x2 x3 x4 x5 v5 σ4)
def f_X11_feed_23 (a0 : Nat) : Nat → Int32 → Int32 → Int32 → Int32 → Int32 → Int32 → zS → Option (Int32 × zS)
  | 0, _, _, _, _, _, _, _ => none
  | n + 1, x1, x2, x3, x4, x5, x6, σ => zbr ((20 : Int32) ≤ x6) (some ((σ.1 a0 2), σ)) (zbr ((4 : Int32) ≤ x6) (zbr ((8 : Int32) ≤ x6) (zbr ((12 : Int32) ≤ x6) (zbr ((16 : Int32) ≤ x6) (f_X11_feed_76 a0 (f_X11_feed_23 a0 n) x1 x2 x3 x4 x5 x6 x5 σ) (f_X11_feed_76 a0 (f_X11_feed_23 a0 n) x1 x2 x3 x4 x5 x6 x4 σ)) (f_X11_feed_76 a0 (f_X11_feed_23 a0 n) x1 x2 x3 x4 x5 x6 x3 σ)) (f_X11_feed_76 a0 (f_X11_feed_23 a0 n) x1 x2 x3 x4 x5 x6 x2 σ)) (f_X11_feed_76 a0 (f_X11_feed_23 a0 n) x1 x2 x3 x4 x5 x6 x1 σ))
theorem t_X11_feed_23 (X : zX) (d : Nat) (a0 : Nat) (h0 : WM.2 a0 = (11, 0)) : ∀ (n : Nat) (x1 : Int32) (x2 : Int32) (x3 : Int32) (x4 : Int32) (x5 : Int32) (x6 : Int32) (σ : zS), zK X WM (zrm d) M_X11_feed (zZ X WM zeI) 23 [some (.ref a0), some (.int x1), some (.int x2), some (.int x3), some (.int x4), some (.int x5), some (.int x6), none] [] σ (f_X11_feed_23 a0 n x1 x2 x3 x4 x5 x6 σ) := by
  intro n
  induction n with
  | zero => intro x1 x2 x3 x4 x5 x6 σ; exact z_none
  | succ n ih =>
    intro x1 x2 x3 x4 x5 x6 σ
    rw [f_X11_feed_23]
    refine z_iload6 13 25 rfl rfl ?_
    refine z_bipush 14 27 rfl rfl cb_20 ?_
    refine z_icmp_ge 15 30 120 rfl rfl (by decide) ?_ ?_
    · refine z_aload0 62 121 rfl rfl ?_
      refine z_getI 63 124 2 rfl rfl zf_X11_71 rfl h0 ?_
      exact z_iret 64 rfl rfl
    · refine z_iload6 16 32 rfl rfl ?_
      refine z_iconst 17 33 rfl rfl ci_4 ?_
      refine z_icmp_ge 18 36 40 rfl rfl (by decide) ?_ ?_
      · refine z_iload6 21 42 rfl rfl ?_
        refine z_bipush 22 44 rfl rfl cb_8 ?_
        refine z_icmp_ge 23 47 51 rfl rfl (by decide) ?_ ?_
        · refine z_iload6 26 53 rfl rfl ?_
          refine z_bipush 27 55 rfl rfl cb_12 ?_
          refine z_icmp_ge 28 58 62 rfl rfl (by decide) ?_ ?_
          · refine z_iload6 31 64 rfl rfl ?_
            refine z_bipush 32 66 rfl rfl cb_16 ?_
            refine z_icmp_ge 33 69 74 rfl rfl (by decide) ?_ ?_
            · refine z_iload5 36 76 rfl rfl ?_
              exact t_X11_feed_76 X d a0 h0 (f_X11_feed_23 a0 n) ih x1 x2 x3 x4 x5 x6 x5 σ
            · refine z_iload4 34 71 rfl rfl ?_
              refine z_goto 35 76 rfl (by decide) ?_
              exact t_X11_feed_76 X d a0 h0 (f_X11_feed_23 a0 n) ih x1 x2 x3 x4 x5 x6 x4 σ
          · refine z_iload3 29 59 rfl rfl ?_
            refine z_goto 30 76 rfl (by decide) ?_
            exact t_X11_feed_76 X d a0 h0 (f_X11_feed_23 a0 n) ih x1 x2 x3 x4 x5 x6 x3 σ
        · refine z_iload2 24 48 rfl rfl ?_
          refine z_goto 25 76 rfl (by decide) ?_
          exact t_X11_feed_76 X d a0 h0 (f_X11_feed_23 a0 n) ih x1 x2 x3 x4 x5 x6 x2 σ
      · refine z_iload1 19 37 rfl rfl ?_
        refine z_goto 20 76 rfl (by decide) ?_
        exact t_X11_feed_76 X d a0 h0 (f_X11_feed_23 a0 n) ih x1 x2 x3 x4 x5 x6 x1 σ
def f_X11_feed (a0 : Nat) (x1 : Int32) (x2 : Int32) (x3 : Int32) (x4 : Int32) (x5 : Int32) (σ : zS) : Option (Int32 × zS) := zck (WM.2 a0 = (11, 0)) (zlt (zpi σ a0 0 (0 : Int32)) (fun σ6 => zbr (((σ6.1 a0 2) + (20 : Int32)) ≤ (900 : Int32)) (zlt (0 : Int32) (fun v7 => f_X11_feed_23 a0 FU x1 x2 x3 x4 x5 v7 σ6)) (some ((-1 : Int32), σ6))))
theorem c_X11_feed (X : zX) (d : Nat) (a0 : Nat) (x1 : Int32) (x2 : Int32) (x3 : Int32) (x4 : Int32) (x5 : Int32) (σ : zS) : ∀ (r : Int32) (σ' : zS), f_X11_feed a0 x1 x2 x3 x4 x5 σ = some (r, σ') → zCN X WM d M_X11_feed [.ref a0, .int x1, .int x2, .int x3, .int x4, .int x5] σ (zeI r, σ') := by
  refine z_entry [.ref a0, .int x1, .int x2, .int x3, .int x4, .int x5] (by decide +kernel) T_X11_feed (Nat.le_of_ble_eq_true rfl) ?_
  show zK X WM (zrm d) M_X11_feed (zZ X WM zeI) 0 [some (.ref a0), some (.int x1), some (.int x2), some (.int x3), some (.int x4), some (.int x5), none, none] [] σ (f_X11_feed a0 x1 x2 x3 x4 x5 σ)
  unfold f_X11_feed
  refine z_ck (fun h0 => ?_)
  refine z_aload0 0 1 rfl rfl ?_
  refine z_iconst 1 2 rfl rfl ci_0 ?_
  refine z_putI 2 5 0 rfl rfl zf_X11_65 rfl rfl rfl h0 (fun σ6 => ?_)
  refine z_aload0 3 6 rfl rfl ?_
  refine z_getI 4 9 2 rfl rfl zf_X11_71 rfl h0 ?_
  refine z_bipush 5 11 rfl rfl cb_20 ?_
  refine z_iadd 6 12 rfl rfl ?_
  refine z_sipush 7 15 rfl rfl cs_900 ?_
  refine z_icmp_le 8 18 20 rfl rfl (by decide) ?_ ?_
  · refine z_iconst 11 21 rfl rfl ci_0 ?_
    refine z_istore6 12 23 rfl rfl rfl (fun v7 => ?_)
    exact t_X11_feed_23 X d a0 h0  FU x1 x2 x3 x4 x5 v7 σ6
  · refine z_iconst 9 19 rfl rfl ci_m1 ?_
    exact z_iret 10 rfl rfl
def f_X11_see (a0 : Nat) (x1 : Int32) (σ : zS) : Option (Int32 × zS) := zck (WM.2 a0 = (11, 0)) (zbr ((σ.1 a0 3) ≤ x1) (some ((-1 : Int32), σ)) (zck (zok 100 (WM.2 (σ.2 a0 1)) x1) (some ((σ.1 (σ.2 a0 1) x1.toNatClampNeg), σ))))
theorem c_X11_see (X : zX) (d : Nat) (a0 : Nat) (x1 : Int32) (σ : zS) : ∀ (r : Int32) (σ' : zS), f_X11_see a0 x1 σ = some (r, σ') → zCN X WM d M_X11_see [.ref a0, .int x1] σ (zeI r, σ') := by
  refine z_entry [.ref a0, .int x1] (by decide +kernel) T_X11_see (Nat.le_of_ble_eq_true rfl) ?_
  show zK X WM (zrm d) M_X11_see (zZ X WM zeI) 0 [some (.ref a0), some (.int x1)] [] σ (f_X11_see a0 x1 σ)
  unfold f_X11_see
  refine z_ck (fun h0 => ?_)
  refine z_iload1 0 1 rfl rfl ?_
  refine z_aload0 1 2 rfl rfl ?_
  refine z_getI 2 5 3 rfl rfl zf_X11_74 rfl h0 ?_
  refine z_icmp_ge 3 8 17 rfl rfl (by decide) ?_ ?_
  · refine z_iconst 9 18 rfl rfl ci_m1 ?_
    exact z_iret 10 rfl rfl
  · refine z_aload0 4 9 rfl rfl ?_
    refine z_getR 5 12 1 rfl rfl zf_X11_7 rfl h0 ?_
    refine z_iload1 6 13 rfl rfl ?_
    refine z_iald 7 14 rfl rfl ?_
    refine z_goto 8 18 rfl (by decide) ?_
    exact z_iret 10 rfl rfl
def f_X11_isSmall (x0 : Int32) (σ : zS) : Option (Int32 × zS) := zbr (x0 < (97 : Int32)) (zck (zb (0 : Int32)) (some ((0 : Int32), σ))) (zbr ((122 : Int32) < x0) (zck (zb (0 : Int32)) (some ((0 : Int32), σ))) (zck (zb (1 : Int32)) (some ((1 : Int32), σ))))
theorem c_X11_isSmall (X : zX) (d : Nat) (x0 : Int32) (σ : zS) : ∀ (r : Int32) (σ' : zS), f_X11_isSmall x0 σ = some (r, σ') → zCN X WM d M_X11_isSmall [.int x0] σ (zeI r, σ') := by
  refine z_entry [.int x0] (by decide +kernel) T_X11_isSmall (Nat.le_of_ble_eq_true rfl) ?_
  show zK X WM (zrm d) M_X11_isSmall (zZ X WM zeI) 0 [some (.int x0)] [] σ (f_X11_isSmall x0 σ)
  unfold f_X11_isSmall
  refine z_iload0 0 1 rfl rfl ?_
  refine z_bipush 1 3 rfl rfl cb_97 ?_
  refine z_icmp_lt 2 6 16 rfl rfl (by decide) ?_ ?_
  · refine z_iconst 8 17 rfl rfl ci_0 ?_
    exact z_zret 9 rfl rfl
  · refine z_iload0 3 7 rfl rfl ?_
    refine z_bipush 4 9 rfl rfl cb_122 ?_
    refine z_icmp_gt 5 12 16 rfl rfl (by decide) ?_ ?_
    · refine z_iconst 8 17 rfl rfl ci_0 ?_
      exact z_zret 9 rfl rfl
    · refine z_iconst 6 13 rfl rfl ci_1 ?_
      refine z_goto 7 17 rfl (by decide) ?_
      exact z_zret 9 rfl rfl
def f_X11_isDigit (x0 : Int32) (σ : zS) : Option (Int32 × zS) := zbr (x0 < (48 : Int32)) (zck (zb (0 : Int32)) (some ((0 : Int32), σ))) (zbr ((57 : Int32) < x0) (zck (zb (0 : Int32)) (some ((0 : Int32), σ))) (zck (zb (1 : Int32)) (some ((1 : Int32), σ))))
theorem c_X11_isDigit (X : zX) (d : Nat) (x0 : Int32) (σ : zS) : ∀ (r : Int32) (σ' : zS), f_X11_isDigit x0 σ = some (r, σ') → zCN X WM d M_X11_isDigit [.int x0] σ (zeI r, σ') := by
  refine z_entry [.int x0] (by decide +kernel) T_X11_isDigit (Nat.le_of_ble_eq_true rfl) ?_
  show zK X WM (zrm d) M_X11_isDigit (zZ X WM zeI) 0 [some (.int x0)] [] σ (f_X11_isDigit x0 σ)
  unfold f_X11_isDigit
  refine z_iload0 0 1 rfl rfl ?_
  refine z_bipush 1 3 rfl rfl cb_48 ?_
  refine z_icmp_lt 2 6 16 rfl rfl (by decide) ?_ ?_
  · refine z_iconst 8 17 rfl rfl ci_0 ?_
    exact z_zret 9 rfl rfl
  · refine z_iload0 3 7 rfl rfl ?_
    refine z_bipush 4 9 rfl rfl cb_57 ?_
    refine z_icmp_gt 5 12 16 rfl rfl (by decide) ?_ ?_
    · refine z_iconst 8 17 rfl rfl ci_0 ?_
      exact z_zret 9 rfl rfl
    · refine z_iconst 6 13 rfl rfl ci_1 ?_
      refine z_goto 7 17 rfl (by decide) ?_
      exact z_zret 9 rfl rfl
def f_X11_next_213 (a0 : Nat) (s0 : Nat) (s1 : Int32) (σ : zS) : Option (Unit × zS) := zck (WM.2 s0 = (11, 0)) (zlt (zpi σ s0 6 s1) (fun σ2 => some ((), σ2)))
theorem t_X11_next_213 (X : zX) (d : Nat) (hd : 1 ≤ d + 1) (a0 : Nat) (h0 : WM.2 a0 = (11, 0)) (s0 : Nat) (s1 : Int32) (σ : zS) : zK X WM (zrm (d + 1)) M_X11_next (zZ X WM zeV) 213 [some (.ref a0), none, none, none] [.int s1, .ref s0] σ (f_X11_next_213 a0 s0 s1 σ) := by
  unfold f_X11_next_213
  refine z_ck (fun h1 => ?_)
  refine z_putI 112 216 6 rfl rfl zf_X11_93 rfl rfl rfl h1 (fun σ2 => ?_)
  refine z_goto 113 241 rfl (by decide) ?_
  exact z_vret 127 rfl rfl
def f_X11_next_188 (a0 : Nat) (H152 : Int32 → Int32 → zS → Option (Unit × zS)) (x1 : Int32) (x3 : Int32) (σ : zS) : Option (Unit × zS) := zlt (x3 + (1 : Int32)) (fun v3 => zlt (x1 + (1 : Int32)) (fun v4 => H152 v4 v3 σ))
theorem t_X11_next_188 (X : zX) (d : Nat) (hd : 1 ≤ d + 1) (a0 : Nat) (h0 : WM.2 a0 = (11, 0)) (H152 : Int32 → Int32 → zS → Option (Unit × zS)) (hH152 : ∀ (x1 : Int32) (x3 : Int32) (σ : zS), zK X WM (zrm (d + 1)) M_X11_next (zZ X WM zeV) 152 [some (.ref a0), some (.int x1), none, some (.int x3)] [] σ (H152 x1 x3 σ)) (x1 : Int32) (x3 : Int32) (σ : zS) : zK X WM (zrm (d + 1)) M_X11_next (zZ X WM zeV) 188 [some (.ref a0), some (.int x1), none, some (.int x3)] [] σ (f_X11_next_188 a0 H152 x1 x3 σ) := by
  unfold f_X11_next_188
  refine z_iinc3 99 191 rfl rfl ci_1 rfl (fun v3 => ?_)
  refine z_iinc1 100 194 rfl rfl ci_1 rfl (fun v4 => ?_)
  refine z_goto 101 152 rfl (by decide) ?_
  exact hH152 v4 v3 σ
def f_X11_next_152 (a0 : Nat) : Nat → Int32 → Int32 → zS → Option (Unit × zS)
  | 0, _, _, _ => none
  | n + 1, x1, x3, σ => zbd (f_X11_see a0 x1 σ) (fun r5 σ6 => zbd (f_X11_isDigit r5 σ6) (fun r7 σ8 => zbr (r7 = 0) (zlt (zpi σ8 a0 5 x1) (fun σ9 => zbr (x3 ≤ (3 : Int32)) (f_X11_next_213 a0 a0 (3 : Int32) σ9) (f_X11_next_213 a0 a0 (1 : Int32) σ9))) (zbr ((3 : Int32) ≤ x3) (f_X11_next_188 a0 (f_X11_next_152 a0 n) x1 x3 σ8) (zbd (f_X11_see a0 x1 σ8) (fun r10 σ11 => zlt (zpi σ11 a0 7 ((((10 : Int32) * (σ8.1 a0 7)) + r10) - (48 : Int32))) (fun σ12 => f_X11_next_188 a0 (f_X11_next_152 a0 n) x1 x3 σ12))))))
theorem t_X11_next_152 (X : zX) (d : Nat) (hd : 1 ≤ d + 1) (a0 : Nat) (h0 : WM.2 a0 = (11, 0)) : ∀ (n : Nat) (x1 : Int32) (x3 : Int32) (σ : zS), zK X WM (zrm (d + 1)) M_X11_next (zZ X WM zeV) 152 [some (.ref a0), some (.int x1), none, some (.int x3)] [] σ (f_X11_next_152 a0 n x1 x3 σ) := by
  intro n
  induction n with
  | zero => intro x1 x3 σ; exact z_none
  | succ n ih =>
    intro x1 x3 σ
    rw [f_X11_next_152]
    refine z_aload0 79 153 rfl rfl ?_
    refine z_iload1 80 154 rfl rfl ?_
    refine z_cV1I 81 157 rfl rfl zl_X11_80 F_X11_see (zR_rm (by omega)) (c_X11_see X d a0 x1 σ) ⟨by decide, rfl, rfl⟩ h0 rfl (Nat.le_of_ble_eq_true rfl) (fun r5 σ6 => ?_)
    refine z_cS1I 82 160 rfl rfl zl_X11_100 F_X11_isDigit (zR_rm (by omega)) (c_X11_isDigit X d r5 σ6) rfl (Nat.le_of_ble_eq_true rfl) (fun r7 σ8 => ?_)
    refine z_if_eq 83 163 197 rfl rfl (by decide) ?_ ?_
    · refine z_aload0 102 198 rfl rfl ?_
      refine z_iload1 103 199 rfl rfl ?_
      refine z_putI 104 202 5 rfl rfl zf_X11_77 rfl rfl rfl h0 (fun σ9 => ?_)
      refine z_aload0 105 203 rfl rfl ?_
      refine z_iload3 106 204 rfl rfl ?_
      refine z_iconst 107 205 rfl rfl ci_3 ?_
      refine z_icmp_le 108 208 212 rfl rfl (by decide) ?_ ?_
      · refine z_iconst 111 213 rfl rfl ci_3 ?_
        exact z_wk (zle_e (zle_n (zle_e (zle_n zle_0)))) (t_X11_next_213 X d hd a0 h0  a0 (3 : Int32) σ9)
      · refine z_iconst 109 209 rfl rfl ci_1 ?_
        refine z_goto 110 213 rfl (by decide) ?_
        exact z_wk (zle_e (zle_n (zle_e (zle_n zle_0)))) (t_X11_next_213 X d hd a0 h0  a0 (1 : Int32) σ9)
    · refine z_iload3 84 164 rfl rfl ?_
      refine z_iconst 85 165 rfl rfl ci_3 ?_
      refine z_icmp_ge 86 168 188 rfl rfl (by decide) ?_ ?_
      · exact t_X11_next_188 X d hd a0 h0 (f_X11_next_152 a0 n) ih x1 x3 σ8
      · refine z_aload0 87 169 rfl rfl ?_
        refine z_bipush 88 171 rfl rfl cb_10 ?_
        refine z_aload0 89 172 rfl rfl ?_
        refine z_getI 90 175 7 rfl rfl zf_X11_90 rfl h0 ?_
        refine z_imul 91 176 rfl rfl ?_
        refine z_aload0 92 177 rfl rfl ?_
        refine z_iload1 93 178 rfl rfl ?_
        refine z_cV1I 94 181 rfl rfl zl_X11_80 F_X11_see (zR_rm (by omega)) (c_X11_see X d a0 x1 σ8) ⟨by decide, rfl, rfl⟩ h0 rfl (Nat.le_of_ble_eq_true rfl) (fun r10 σ11 => ?_)
        refine z_iadd 95 182 rfl rfl ?_
        refine z_bipush 96 184 rfl rfl cb_48 ?_
        refine z_isub 97 185 rfl rfl ?_
        refine z_putI 98 188 7 rfl rfl zf_X11_90 rfl rfl rfl h0 (fun σ12 => ?_)
        exact t_X11_next_188 X d hd a0 h0 (f_X11_next_152 a0 n) ih x1 x3 σ12
def f_X11_next_137 (a0 : Nat) (s0 : Nat) (s1 : Int32) (σ : zS) : Option (Unit × zS) := zck (WM.2 s0 = (11, 0)) (zlt (zpi σ s0 6 s1) (fun σ14 => some ((), σ14)))
theorem t_X11_next_137 (X : zX) (d : Nat) (hd : 1 ≤ d + 1) (a0 : Nat) (h0 : WM.2 a0 = (11, 0)) (s0 : Nat) (s1 : Int32) (σ : zS) : zK X WM (zrm (d + 1)) M_X11_next (zZ X WM zeV) 137 [some (.ref a0), none, none, none] [.int s1, .ref s0] σ (f_X11_next_137 a0 s0 s1 σ) := by
  unfold f_X11_next_137
  refine z_ck (fun h13 => ?_)
  refine z_putI 72 140 6 rfl rfl zf_X11_93 rfl rfl rfl h13 (fun σ14 => ?_)
  refine z_goto 73 241 rfl (by decide) ?_
  exact z_vret 127 rfl rfl
def f_X11_next_101 (a0 : Nat) (H67 : Int32 → zS → Option (Unit × zS)) (x1 : Int32) (σ : zS) : Option (Unit × zS) := zlt (zpi σ a0 8 ((σ.1 a0 8) + (1 : Int32))) (fun σ15 => zlt (x1 + (1 : Int32)) (fun v16 => H67 v16 σ15))
theorem t_X11_next_101 (X : zX) (d : Nat) (hd : 1 ≤ d + 1) (a0 : Nat) (h0 : WM.2 a0 = (11, 0)) (H67 : Int32 → zS → Option (Unit × zS)) (hH67 : ∀ (x1 : Int32) (σ : zS), zK X WM (zrm (d + 1)) M_X11_next (zZ X WM zeV) 67 [some (.ref a0), some (.int x1), none, none] [] σ (H67 x1 σ)) (x1 : Int32) (σ : zS) : zK X WM (zrm (d + 1)) M_X11_next (zZ X WM zeV) 101 [some (.ref a0), some (.int x1), none, none] [] σ (f_X11_next_101 a0 H67 x1 σ) := by
  unfold f_X11_next_101
  refine z_aload0 53 102 rfl rfl ?_
  refine z_dup 54 103 rfl rfl rfl ?_
  refine z_getI 55 106 8 rfl rfl zf_X11_87 rfl h0 ?_
  refine z_iconst 56 107 rfl rfl ci_1 ?_
  refine z_iadd 57 108 rfl rfl ?_
  refine z_putI 58 111 8 rfl rfl zf_X11_87 rfl rfl rfl h0 (fun σ15 => ?_)
  refine z_iinc1 59 114 rfl rfl ci_1 rfl (fun v16 => ?_)
  refine z_goto 60 67 rfl (by decide) ?_
  exact hH67 v16 σ15
def f_X11_next_67 (a0 : Nat) : Nat → Int32 → zS → Option (Unit × zS)
  | 0, _, _ => none
  | n + 1, x1, σ => zbd (f_X11_see a0 x1 σ) (fun r17 σ18 => zbd (f_X11_isSmall r17 σ18) (fun r19 σ20 => zbr (r19 = 0) (zlt (zpi σ20 a0 5 x1) (fun σ21 => zbr ((σ21.1 a0 8) ≤ (8 : Int32)) (f_X11_next_137 a0 a0 (2 : Int32) σ21) (f_X11_next_137 a0 a0 (1 : Int32) σ21))) (zbr ((8 : Int32) ≤ (σ20.1 a0 8)) (f_X11_next_101 a0 (f_X11_next_67 a0 n) x1 σ20) (zbd (f_X11_see a0 x1 σ20) (fun r22 σ23 => zck (zok 100 (WM.2 (σ20.2 a0 12)) (σ20.1 a0 8)) (zlt (zpi σ23 (σ20.2 a0 12) (σ20.1 a0 8).toNatClampNeg r22) (fun σ24 => f_X11_next_101 a0 (f_X11_next_67 a0 n) x1 σ24)))))))
theorem t_X11_next_67 (X : zX) (d : Nat) (hd : 1 ≤ d + 1) (a0 : Nat) (h0 : WM.2 a0 = (11, 0)) : ∀ (n : Nat) (x1 : Int32) (σ : zS), zK X WM (zrm (d + 1)) M_X11_next (zZ X WM zeV) 67 [some (.ref a0), some (.int x1), none, none] [] σ (f_X11_next_67 a0 n x1 σ) := by
  intro n
  induction n with
  | zero => intro x1 σ; exact z_none
  | succ n ih =>
    intro x1 σ
    rw [f_X11_next_67]
    refine z_aload0 36 68 rfl rfl ?_
    refine z_iload1 37 69 rfl rfl ?_
    refine z_cV1I 38 72 rfl rfl zl_X11_80 F_X11_see (zR_rm (by omega)) (c_X11_see X d a0 x1 σ) ⟨by decide, rfl, rfl⟩ h0 rfl (Nat.le_of_ble_eq_true rfl) (fun r17 σ18 => ?_)
    refine z_cS1I 39 75 rfl rfl zl_X11_96 F_X11_isSmall (zR_rm (by omega)) (c_X11_isSmall X d r17 σ18) rfl (Nat.le_of_ble_eq_true rfl) (fun r19 σ20 => ?_)
    refine z_if_eq 40 78 117 rfl rfl (by decide) ?_ ?_
    · refine z_aload0 61 118 rfl rfl ?_
      refine z_iload1 62 119 rfl rfl ?_
      refine z_putI 63 122 5 rfl rfl zf_X11_77 rfl rfl rfl h0 (fun σ21 => ?_)
      refine z_aload0 64 123 rfl rfl ?_
      refine z_aload0 65 124 rfl rfl ?_
      refine z_getI 66 127 8 rfl rfl zf_X11_87 rfl h0 ?_
      refine z_bipush 67 129 rfl rfl cb_8 ?_
      refine z_icmp_le 68 132 136 rfl rfl (by decide) ?_ ?_
      · refine z_iconst 71 137 rfl rfl ci_2 ?_
        exact z_wk (zle_e (zle_n (zle_e (zle_e zle_0)))) (t_X11_next_137 X d hd a0 h0  a0 (2 : Int32) σ21)
      · refine z_iconst 69 133 rfl rfl ci_1 ?_
        refine z_goto 70 137 rfl (by decide) ?_
        exact z_wk (zle_e (zle_n (zle_e (zle_e zle_0)))) (t_X11_next_137 X d hd a0 h0  a0 (1 : Int32) σ21)
    · refine z_aload0 41 79 rfl rfl ?_
      refine z_getI 42 82 8 rfl rfl zf_X11_87 rfl h0 ?_
      refine z_bipush 43 84 rfl rfl cb_8 ?_
      refine z_icmp_ge 44 87 101 rfl rfl (by decide) ?_ ?_
      · exact t_X11_next_101 X d hd a0 h0 (f_X11_next_67 a0 n) ih x1 σ20
      · refine z_aload0 45 88 rfl rfl ?_
        refine z_getR 46 91 12 rfl rfl zf_X11_17 rfl h0 ?_
        refine z_aload0 47 92 rfl rfl ?_
        refine z_getI 48 95 8 rfl rfl zf_X11_87 rfl h0 ?_
        refine z_aload0 49 96 rfl rfl ?_
        refine z_iload1 50 97 rfl rfl ?_
        refine z_cV1I 51 100 rfl rfl zl_X11_80 F_X11_see (zR_rm (by omega)) (c_X11_see X d a0 x1 σ20) ⟨by decide, rfl, rfl⟩ h0 rfl (Nat.le_of_ble_eq_true rfl) (fun r22 σ23 => ?_)
        refine z_iast 52 101 rfl rfl (fun σ24 => ?_)
        exact t_X11_next_101 X d hd a0 h0 (f_X11_next_67 a0 n) ih x1 σ24
def f_X11_next_5 (a0 : Nat) : Nat → Int32 → zS → Option (Unit × zS)
  | 0, _, _ => none
  | n + 1, x1, σ => zbd (f_X11_see a0 x1 σ) (fun r25 σ26 => zbr (r25 = (32 : Int32)) (zlt (x1 + (1 : Int32)) (fun v27 => f_X11_next_5 a0 n v27 σ26)) (zlt (zpi σ26 a0 4 x1) (fun σ28 => zbd (f_X11_see a0 x1 σ28) (fun r29 σ30 => zlt r29 (fun v31 => zlt (zpi σ30 a0 8 (0 : Int32)) (fun σ32 => zlt (zpi σ32 a0 7 (0 : Int32)) (fun σ33 => zbr (v31 = (-1 : Int32)) (zlt (zpi σ33 a0 6 (0 : Int32)) (fun σ34 => zlt (zpi σ34 a0 5 x1) (fun σ35 => some ((), σ35)))) (zbd (f_X11_isSmall v31 σ33) (fun r36 σ37 => zbr (r36 = 0) (zbd (f_X11_isDigit v31 σ37) (fun r38 σ39 => zbr (r38 = 0) (zlt (zpi σ39 a0 5 (x1 + (1 : Int32))) (fun σ40 => zbr (v31 = (59 : Int32)) (zlt (zpi σ40 a0 6 v31) (fun σ41 => some ((), σ41))) (zlt (zpi σ40 a0 6 (1 : Int32)) (fun σ42 => some ((), σ42))))) (zlt (0 : Int32) (fun v43 => f_X11_next_152 a0 FU x1 v43 σ39)))) (f_X11_next_67 a0 FU x1 σ37))))))))))
theorem t_X11_next_5 (X : zX) (d : Nat) (hd : 1 ≤ d + 1) (a0 : Nat) (h0 : WM.2 a0 = (11, 0)) : ∀ (n : Nat) (x1 : Int32) (σ : zS), zK X WM (zrm (d + 1)) M_X11_next (zZ X WM zeV) 5 [some (.ref a0), some (.int x1), none, none] [] σ (f_X11_next_5 a0 n x1 σ) := by
  intro n
  induction n with
  | zero => intro x1 σ; exact z_none
  | succ n ih =>
    intro x1 σ
    rw [f_X11_next_5]
    refine z_aload0 3 6 rfl rfl ?_
    refine z_iload1 4 7 rfl rfl ?_
    refine z_cV1I 5 10 rfl rfl zl_X11_80 F_X11_see (zR_rm (by omega)) (c_X11_see X d a0 x1 σ) ⟨by decide, rfl, rfl⟩ h0 rfl (Nat.le_of_ble_eq_true rfl) (fun r25 σ26 => ?_)
    refine z_bipush 6 12 rfl rfl cb_32 ?_
    refine z_icmp_ne 7 15 21 rfl rfl (by decide) ?_ ?_
    · refine z_iinc1 8 18 rfl rfl ci_1 rfl (fun v27 => ?_)
      refine z_goto 9 5 rfl (by decide) ?_
      exact ih v27 σ26
    · refine z_aload0 10 22 rfl rfl ?_
      refine z_iload1 11 23 rfl rfl ?_
      refine z_putI 12 26 4 rfl rfl zf_X11_84 rfl rfl rfl h0 (fun σ28 => ?_)
      refine z_aload0 13 27 rfl rfl ?_
      refine z_iload1 14 28 rfl rfl ?_
      refine z_cV1I 15 31 rfl rfl zl_X11_80 F_X11_see (zR_rm (by omega)) (c_X11_see X d a0 x1 σ28) ⟨by decide, rfl, rfl⟩ h0 rfl (Nat.le_of_ble_eq_true rfl) (fun r29 σ30 => ?_)
      refine z_istore2 16 32 rfl rfl rfl (fun v31 => ?_)
      refine z_aload0 17 33 rfl rfl ?_
      refine z_iconst 18 34 rfl rfl ci_0 ?_
      refine z_putI 19 37 8 rfl rfl zf_X11_87 rfl rfl rfl h0 (fun σ32 => ?_)
      refine z_aload0 20 38 rfl rfl ?_
      refine z_iconst 21 39 rfl rfl ci_0 ?_
      refine z_putI 22 42 7 rfl rfl zf_X11_90 rfl rfl rfl h0 (fun σ33 => ?_)
      refine z_iload2 23 43 rfl rfl ?_
      refine z_iconst 24 44 rfl rfl ci_m1 ?_
      refine z_icmp_ne 25 47 60 rfl rfl (by decide) ?_ ?_
      · refine z_aload0 26 48 rfl rfl ?_
        refine z_iconst 27 49 rfl rfl ci_0 ?_
        refine z_putI 28 52 6 rfl rfl zf_X11_93 rfl rfl rfl h0 (fun σ34 => ?_)
        refine z_aload0 29 53 rfl rfl ?_
        refine z_iload1 30 54 rfl rfl ?_
        refine z_putI 31 57 5 rfl rfl zf_X11_77 rfl rfl rfl h0 (fun σ35 => ?_)
        refine z_goto 32 241 rfl (by decide) ?_
        exact z_vret 127 rfl rfl
      · refine z_iload2 33 61 rfl rfl ?_
        refine z_cS1I 34 64 rfl rfl zl_X11_96 F_X11_isSmall (zR_rm (by omega)) (c_X11_isSmall X d v31 σ33) rfl (Nat.le_of_ble_eq_true rfl) (fun r36 σ37 => ?_)
        refine z_if_eq 35 67 143 rfl rfl (by decide) ?_ ?_
        · refine z_iload2 74 144 rfl rfl ?_
          refine z_cS1I 75 147 rfl rfl zl_X11_100 F_X11_isDigit (zR_rm (by omega)) (c_X11_isDigit X d v31 σ37) rfl (Nat.le_of_ble_eq_true rfl) (fun r38 σ39 => ?_)
          refine z_if_eq 76 150 219 rfl rfl (by decide) ?_ ?_
          · refine z_aload0 114 220 rfl rfl ?_
            refine z_iload1 115 221 rfl rfl ?_
            refine z_iconst 116 222 rfl rfl ci_1 ?_
            refine z_iadd 117 223 rfl rfl ?_
            refine z_putI 118 226 5 rfl rfl zf_X11_77 rfl rfl rfl h0 (fun σ40 => ?_)
            refine z_aload0 119 227 rfl rfl ?_
            refine z_iload2 120 228 rfl rfl ?_
            refine z_bipush 121 230 rfl rfl cb_59 ?_
            refine z_icmp_ne 122 233 237 rfl rfl (by decide) ?_ ?_
            · refine z_iload2 123 234 rfl rfl ?_
              refine z_goto 124 238 rfl (by decide) ?_
              refine z_putI 126 241 6 rfl rfl zf_X11_93 rfl rfl rfl h0 (fun σ41 => ?_)
              exact z_vret 127 rfl rfl
            · refine z_iconst 125 238 rfl rfl ci_1 ?_
              refine z_putI 126 241 6 rfl rfl zf_X11_93 rfl rfl rfl h0 (fun σ42 => ?_)
              exact z_vret 127 rfl rfl
          · refine z_iconst 77 151 rfl rfl ci_0 ?_
            refine z_istore3 78 152 rfl rfl rfl (fun v43 => ?_)
            exact z_wk (zle_e (zle_e (zle_n (zle_e zle_0)))) (t_X11_next_152 X d hd a0 h0  FU x1 v43 σ39)
        · exact z_wk (zle_e (zle_e (zle_n (zle_e zle_0)))) (t_X11_next_67 X d hd a0 h0  FU x1 σ37)
def f_X11_next (a0 : Nat) (σ : zS) : Option (Unit × zS) := zck (WM.2 a0 = (11, 0)) (zlt (σ.1 a0 5) (fun v44 => f_X11_next_5 a0 FU v44 σ))
theorem c_X11_next (X : zX) (d : Nat) (hd : 1 ≤ d) (a0 : Nat) (σ : zS) : ∀ (r : Unit) (σ' : zS), f_X11_next a0 σ = some (r, σ') → zCN X WM d M_X11_next [.ref a0] σ (zeV r, σ') := by
  obtain ⟨d, rfl⟩ : ∃ e, d = e + 1 := ⟨d - 1, by omega⟩
  refine z_entry [.ref a0] (by decide +kernel) T_X11_next (Nat.le_of_ble_eq_true rfl) ?_
  show zK X WM (zrm (d + 1)) M_X11_next (zZ X WM zeV) 0 [some (.ref a0), none, none, none] [] σ (f_X11_next a0 σ)
  unfold f_X11_next
  refine z_ck (fun h0 => ?_)
  refine z_aload0 0 1 rfl rfl ?_
  refine z_getI 1 4 5 rfl rfl zf_X11_77 rfl h0 ?_
  refine z_istore1 2 5 rfl rfl rfl (fun v44 => ?_)
  exact t_X11_next_5 X d hd a0 h0  FU v44 σ
def f_X11_wrong (a0 : Nat) (x1 : Int32) (x2 : Int32) (σ : zS) : Option (Unit × zS) := zck (WM.2 a0 = (11, 0)) (zbr ((σ.1 a0 13) = 0) (zck (zb (1 : Int32)) (zlt (zpi σ a0 13 (1 : Int32)) (fun σ1 => zlt (zpi σ1 a0 9 x1) (fun σ2 => zlt (zpi σ2 a0 10 x2) (fun σ3 => some ((), σ3)))))) (some ((), σ)))
theorem c_X11_wrong (X : zX) (d : Nat) (a0 : Nat) (x1 : Int32) (x2 : Int32) (σ : zS) : ∀ (r : Unit) (σ' : zS), f_X11_wrong a0 x1 x2 σ = some (r, σ') → zCN X WM d M_X11_wrong [.ref a0, .int x1, .int x2] σ (zeV r, σ') := by
  refine z_entry [.ref a0, .int x1, .int x2] (by decide +kernel) T_X11_wrong (Nat.le_of_ble_eq_true rfl) ?_
  show zK X WM (zrm d) M_X11_wrong (zZ X WM zeV) 0 [some (.ref a0), some (.int x1), some (.int x2)] [] σ (f_X11_wrong a0 x1 x2 σ)
  unfold f_X11_wrong
  refine z_ck (fun h0 => ?_)
  refine z_aload0 0 1 rfl rfl ?_
  refine z_getI 1 4 13 rfl rfl zf_X11_103 rfl h0 ?_
  refine z_if_eq 2 7 8 rfl rfl (by decide) ?_ ?_
  · refine z_aload0 4 9 rfl rfl ?_
    refine z_iconst 5 10 rfl rfl ci_1 ?_
    refine z_putZ 6 13 13 rfl rfl zf_X11_103 rfl rfl rfl h0 (fun σ1 => ?_)
    refine z_aload0 7 14 rfl rfl ?_
    refine z_iload1 8 15 rfl rfl ?_
    refine z_putI 9 18 9 rfl rfl zf_X11_107 rfl rfl rfl h0 (fun σ2 => ?_)
    refine z_aload0 10 19 rfl rfl ?_
    refine z_iload2 11 20 rfl rfl ?_
    refine z_putI 12 23 10 rfl rfl zf_X11_13 rfl rfl rfl h0 (fun σ3 => ?_)
    exact z_vret 13 rfl rfl
  · exact z_vret 3 rfl rfl
def f_X11_isWord_63 (a0 : Nat) (H32 : Nat → Int32 → Int32 → zS → Option (Int32 × zS)) (x1 : Nat) (x3 : Int32) (s0 : Int32) (σ : zS) : Option (Int32 × zS) := zlt s0 (fun v1 => zlt (x3 + (1 : Int32)) (fun v2 => H32 x1 v1 v2 σ))
theorem t_X11_isWord_63 (X : zX) (d : Nat) (hd : 8 ≤ d + 1) (a0 : Nat) (h0 : WM.2 a0 = (11, 0)) (H32 : Nat → Int32 → Int32 → zS → Option (Int32 × zS)) (hH32 : ∀ (x1 : Nat) (x2 : Int32) (x3 : Int32) (σ : zS), zK X WM (zrm (d + 1)) M_X11_isWord (zZ X WM zeI) 32 [some (.ref a0), some (.ref x1), some (.int x2), some (.int x3)] [] σ (H32 x1 x2 x3 σ)) (x1 : Nat) (x3 : Int32) (s0 : Int32) (σ : zS) : zK X WM (zrm (d + 1)) M_X11_isWord (zZ X WM zeI) 63 [some (.ref a0), some (.ref x1), none, some (.int x3)] [.int s0] σ (f_X11_isWord_63 a0 H32 x1 x3 s0 σ) := by
  unfold f_X11_isWord_63
  refine z_istore2 35 64 rfl rfl rfl (fun v1 => ?_)
  refine z_iinc3 36 67 rfl rfl ci_1 rfl (fun v2 => ?_)
  refine z_goto 37 32 rfl (by decide) ?_
  exact hH32 x1 v1 v2 σ
def f_X11_isWord_62 (a0 : Nat) (H32 : Nat → Int32 → Int32 → zS → Option (Int32 × zS)) (x1 : Nat) (x3 : Int32) (σ : zS) : Option (Int32 × zS) := f_X11_isWord_63 a0 H32 x1 x3 (0 : Int32) σ
theorem t_X11_isWord_62 (X : zX) (d : Nat) (hd : 8 ≤ d + 1) (a0 : Nat) (h0 : WM.2 a0 = (11, 0)) (H32 : Nat → Int32 → Int32 → zS → Option (Int32 × zS)) (hH32 : ∀ (x1 : Nat) (x2 : Int32) (x3 : Int32) (σ : zS), zK X WM (zrm (d + 1)) M_X11_isWord (zZ X WM zeI) 32 [some (.ref a0), some (.ref x1), some (.int x2), some (.int x3)] [] σ (H32 x1 x2 x3 σ)) (x1 : Nat) (x3 : Int32) (σ : zS) : zK X WM (zrm (d + 1)) M_X11_isWord (zZ X WM zeI) 62 [some (.ref a0), some (.ref x1), none, some (.int x3)] [] σ (f_X11_isWord_62 a0 H32 x1 x3 σ) := by
  unfold f_X11_isWord_62
  refine z_iconst 34 63 rfl rfl ci_0 ?_
  exact t_X11_isWord_63 X d hd a0 h0 H32 hH32 x1 x3 (0 : Int32) σ
def f_X11_isWord_32 (a0 : Nat) : Nat → Nat → Int32 → Int32 → zS → Option (Int32 × zS)
  | 0, _, _, _, _ => none
  | n + 1, x1, x2, x3, σ => zbr ((σ.1 a0 8) ≤ x3) (zck (zb x2) (some (x2, σ))) (zbr (x2 = 0) (f_X11_isWord_62 a0 (f_X11_isWord_32 a0 n) x1 x3 σ) (zck (zok 100 (WM.2 (σ.2 a0 12)) x3) (zck ((1000 ≤ x1 ∧ x1 < 1018) ∧ 0 ≤ x3.toInt ∧ x3.toInt < zlen.getD (x1 - 1000) 0) (zbr ((σ.1 (σ.2 a0 12) x3.toNatClampNeg) = (zsch x1 x3)) (f_X11_isWord_63 a0 (f_X11_isWord_32 a0 n) x1 x3 (1 : Int32) σ) (f_X11_isWord_62 a0 (f_X11_isWord_32 a0 n) x1 x3 σ)))))
theorem t_X11_isWord_32 (X : zX) (d : Nat) (hd : 8 ≤ d + 1) (a0 : Nat) (h0 : WM.2 a0 = (11, 0)) : ∀ (n : Nat) (x1 : Nat) (x2 : Int32) (x3 : Int32) (σ : zS), zK X WM (zrm (d + 1)) M_X11_isWord (zZ X WM zeI) 32 [some (.ref a0), some (.ref x1), some (.int x2), some (.int x3)] [] σ (f_X11_isWord_32 a0 n x1 x2 x3 σ) := by
  intro n
  induction n with
  | zero => intro x1 x2 x3 σ; exact z_none
  | succ n ih =>
    intro x1 x2 x3 σ
    rw [f_X11_isWord_32]
    refine z_iload3 18 33 rfl rfl ?_
    refine z_aload0 19 34 rfl rfl ?_
    refine z_getI 20 37 8 rfl rfl zf_X11_87 rfl h0 ?_
    refine z_icmp_ge 21 40 70 rfl rfl (by decide) ?_ ?_
    · refine z_iload2 38 71 rfl rfl ?_
      exact z_zret 39 rfl rfl
    · refine z_iload2 22 41 rfl rfl ?_
      refine z_if_eq 23 44 62 rfl rfl (by decide) ?_ ?_
      · exact z_wk (zle_e (zle_e (zle_n (zle_e zle_0)))) (t_X11_isWord_62 X d hd a0 h0 (f_X11_isWord_32 a0 n) ih x1 x3 σ)
      · refine z_aload0 24 45 rfl rfl ?_
        refine z_getR 25 48 12 rfl rfl zf_X11_17 rfl h0 ?_
        refine z_iload3 26 49 rfl rfl ?_
        refine z_iald 27 50 rfl rfl ?_
        refine z_aload1 28 51 rfl rfl ?_
        refine z_iload3 29 52 rfl rfl ?_
        refine z_ck (fun h3 => ?_)
        refine z_charAt 30 55 rfl rfl zl_X11_116 (zR_rm (by omega)) h3 rfl (Nat.le_of_ble_eq_true rfl) ?_
        refine z_icmp_ne 31 58 62 rfl rfl (by decide) ?_ ?_
        · refine z_iconst 32 59 rfl rfl ci_1 ?_
          refine z_goto 33 63 rfl (by decide) ?_
          exact z_wk (zle_e (zle_e (zle_n (zle_e zle_0)))) (t_X11_isWord_63 X d hd a0 h0 (f_X11_isWord_32 a0 n) ih x1 x3 (1 : Int32) σ)
        · exact z_wk (zle_e (zle_e (zle_n (zle_e zle_0)))) (t_X11_isWord_62 X d hd a0 h0 (f_X11_isWord_32 a0 n) ih x1 x3 σ)
def f_X11_isWord (a0 : Nat) (x1 : Nat) (σ : zS) : Option (Int32 × zS) := zck (WM.2 a0 = (11, 0)) (zbr ((σ.1 a0 13) = 0) (zbr ((σ.1 a0 6) = (2 : Int32)) (zck (1000 ≤ x1 ∧ x1 < 1018) (zbr ((σ.1 a0 8) = (zslen x1)) (zlt (1 : Int32) (fun v5 => zlt (0 : Int32) (fun v6 => f_X11_isWord_32 a0 FU x1 v5 v6 σ))) (zck (zb (0 : Int32)) (some ((0 : Int32), σ))))) (zck (zb (0 : Int32)) (some ((0 : Int32), σ)))) (zck (zb (0 : Int32)) (some ((0 : Int32), σ))))
theorem c_X11_isWord (X : zX) (d : Nat) (hd : 8 ≤ d) (a0 : Nat) (x1 : Nat) (σ : zS) : ∀ (r : Int32) (σ' : zS), f_X11_isWord a0 x1 σ = some (r, σ') → zCN X WM d M_X11_isWord [.ref a0, .ref x1] σ (zeI r, σ') := by
  obtain ⟨d, rfl⟩ : ∃ e, d = e + 1 := ⟨d - 1, by omega⟩
  refine z_entry [.ref a0, .ref x1] (by decide +kernel) T_X11_isWord (Nat.le_of_ble_eq_true rfl) ?_
  show zK X WM (zrm (d + 1)) M_X11_isWord (zZ X WM zeI) 0 [some (.ref a0), some (.ref x1), none, none] [] σ (f_X11_isWord a0 x1 σ)
  unfold f_X11_isWord
  refine z_ck (fun h0 => ?_)
  refine z_aload0 0 1 rfl rfl ?_
  refine z_getI 1 4 13 rfl rfl zf_X11_103 rfl h0 ?_
  refine z_if_ne 2 7 26 rfl rfl (by decide) ?_ ?_
  · refine z_aload0 3 8 rfl rfl ?_
    refine z_getI 4 11 6 rfl rfl zf_X11_93 rfl h0 ?_
    refine z_iconst 5 12 rfl rfl ci_2 ?_
    refine z_icmp_ne 6 15 26 rfl rfl (by decide) ?_ ?_
    · refine z_aload0 7 16 rfl rfl ?_
      refine z_getI 8 19 8 rfl rfl zf_X11_87 rfl h0 ?_
      refine z_aload1 9 20 rfl rfl ?_
      refine z_ck (fun h4 => ?_)
      refine z_strlen 10 23 rfl rfl zl_X11_110 (zR_rm (by omega)) h4 rfl (Nat.le_of_ble_eq_true rfl) ?_
      refine z_icmp_eq 11 26 28 rfl rfl (by decide) ?_ ?_
      · refine z_iconst 14 29 rfl rfl ci_1 ?_
        refine z_istore2 15 30 rfl rfl rfl (fun v5 => ?_)
        refine z_iconst 16 31 rfl rfl ci_0 ?_
        refine z_istore3 17 32 rfl rfl rfl (fun v6 => ?_)
        exact t_X11_isWord_32 X d hd a0 h0  FU x1 v5 v6 σ
      · refine z_iconst 12 27 rfl rfl ci_0 ?_
        exact z_zret 13 rfl rfl
    · refine z_iconst 12 27 rfl rfl ci_0 ?_
      exact z_zret 13 rfl rfl
  · refine z_iconst 12 27 rfl rfl ci_0 ?_
    exact z_zret 13 rfl rfl
def f_X11_takesWord (a0 : Nat) (x1 : Nat) (σ : zS) : Option (Int32 × zS) := zck (WM.2 a0 = (11, 0)) (zbd (f_X11_isWord a0 x1 σ) (fun r1 σ2 => zbr (r1 = 0) (zck (zb (0 : Int32)) (some ((0 : Int32), σ2))) (zbd (f_X11_next a0 σ2) (fun r3 σ4 => zck (zb (1 : Int32)) (some ((1 : Int32), σ4))))))
theorem c_X11_takesWord (X : zX) (d : Nat) (hd : 9 ≤ d) (a0 : Nat) (x1 : Nat) (σ : zS) : ∀ (r : Int32) (σ' : zS), f_X11_takesWord a0 x1 σ = some (r, σ') → zCN X WM d M_X11_takesWord [.ref a0, .ref x1] σ (zeI r, σ') := by
  obtain ⟨d, rfl⟩ : ∃ e, d = e + 1 := ⟨d - 1, by omega⟩
  refine z_entry [.ref a0, .ref x1] (by decide +kernel) T_X11_takesWord (Nat.le_of_ble_eq_true rfl) ?_
  show zK X WM (zrm (d + 1)) M_X11_takesWord (zZ X WM zeI) 0 [some (.ref a0), some (.ref x1)] [] σ (f_X11_takesWord a0 x1 σ)
  unfold f_X11_takesWord
  refine z_ck (fun h0 => ?_)
  refine z_aload0 0 1 rfl rfl ?_
  refine z_aload1 1 2 rfl rfl ?_
  refine z_cV1I 2 5 rfl rfl zl_X11_120 F_X11_isWord (zR_rm (by omega)) (c_X11_isWord X d (by omega) a0 x1 σ) ⟨by decide, rfl, rfl⟩ h0 rfl (Nat.le_of_ble_eq_true rfl) (fun r1 σ2 => ?_)
  refine z_if_ne 3 8 10 rfl rfl (by decide) ?_ ?_
  · refine z_iconst 4 9 rfl rfl ci_0 ?_
    exact z_zret 5 rfl rfl
  · refine z_aload0 6 11 rfl rfl ?_
    refine z_cV0V 7 14 rfl rfl zl_X11_124 F_X11_next (zR_rm (by omega)) (c_X11_next X d (by omega) a0 σ2) ⟨by decide, rfl, rfl⟩ h0 rfl (Nat.le_of_ble_eq_true rfl) (fun r3 σ4 => ?_)
    refine z_iconst 8 15 rfl rfl ci_1 ?_
    exact z_zret 9 rfl rfl
def f_X11_must (a0 : Nat) (x1 : Nat) (σ : zS) : Option (Unit × zS) := zck (WM.2 a0 = (11, 0)) (zbr ((σ.1 a0 13) = 0) (zbd (f_X11_takesWord a0 x1 σ) (fun r1 σ2 => zbr (r1 = 0) (zbd (f_X11_wrong a0 (1 : Int32) (σ2.1 a0 4) σ2) (fun r3 σ4 => some ((), σ4))) (some ((), σ2)))) (some ((), σ)))
theorem c_X11_must (X : zX) (d : Nat) (hd : 10 ≤ d) (a0 : Nat) (x1 : Nat) (σ : zS) : ∀ (r : Unit) (σ' : zS), f_X11_must a0 x1 σ = some (r, σ') → zCN X WM d M_X11_must [.ref a0, .ref x1] σ (zeV r, σ') := by
  obtain ⟨d, rfl⟩ : ∃ e, d = e + 1 := ⟨d - 1, by omega⟩
  refine z_entry [.ref a0, .ref x1] (by decide +kernel) T_X11_must (Nat.le_of_ble_eq_true rfl) ?_
  show zK X WM (zrm (d + 1)) M_X11_must (zZ X WM zeV) 0 [some (.ref a0), some (.ref x1)] [] σ (f_X11_must a0 x1 σ)
  unfold f_X11_must
  refine z_ck (fun h0 => ?_)
  refine z_aload0 0 1 rfl rfl ?_
  refine z_getI 1 4 13 rfl rfl zf_X11_103 rfl h0 ?_
  refine z_if_ne 2 7 24 rfl rfl (by decide) ?_ ?_
  · refine z_aload0 3 8 rfl rfl ?_
    refine z_aload1 4 9 rfl rfl ?_
    refine z_cV1I 5 12 rfl rfl zl_X11_127 F_X11_takesWord (zR_rm (by omega)) (c_X11_takesWord X d (by omega) a0 x1 σ) ⟨by decide, rfl, rfl⟩ h0 rfl (Nat.le_of_ble_eq_true rfl) (fun r1 σ2 => ?_)
    refine z_if_ne 6 15 24 rfl rfl (by decide) ?_ ?_
    · refine z_aload0 7 16 rfl rfl ?_
      refine z_iconst 8 17 rfl rfl ci_1 ?_
      refine z_aload0 9 18 rfl rfl ?_
      refine z_getI 10 21 4 rfl rfl zf_X11_84 rfl h0 ?_
      refine z_cV2V 11 24 rfl rfl zl_X11_130 F_X11_wrong (zR_rm (by omega)) (c_X11_wrong X d a0 (1 : Int32) (σ2.1 a0 4) σ2) ⟨by decide, rfl, rfl⟩ h0 rfl (Nat.le_of_ble_eq_true rfl) (fun r3 σ4 => ?_)
      exact z_vret 12 rfl rfl
    · exact z_vret 12 rfl rfl
  · exact z_vret 12 rfl rfl
def f_X11_mustName_89 (a0 : Nat)  (σ : zS) : Option (Unit × zS) := zbd (f_X11_wrong a0 (1 : Int32) (σ.1 a0 4) σ) (fun r1 σ2 => some ((), σ2))
theorem t_X11_mustName_89 (X : zX) (d : Nat) (hd : 9 ≤ d + 1) (a0 : Nat) (h0 : WM.2 a0 = (11, 0))  (σ : zS) : zK X WM (zrm (d + 1)) M_X11_mustName (zZ X WM zeV) 89 [some (.ref a0)] [] σ (f_X11_mustName_89 a0 σ) := by
  unfold f_X11_mustName_89
  refine z_aload0 40 90 rfl rfl ?_
  refine z_iconst 41 91 rfl rfl ci_1 ?_
  refine z_aload0 42 92 rfl rfl ?_
  refine z_getI 43 95 4 rfl rfl zf_X11_84 rfl h0 ?_
  refine z_cV2V 44 98 rfl rfl zl_X11_130 F_X11_wrong (zR_rm (by omega)) (c_X11_wrong X d a0 (1 : Int32) (σ.1 a0 4) σ) ⟨by decide, rfl, rfl⟩ h0 rfl (Nat.le_of_ble_eq_true rfl) (fun r1 σ2 => ?_)
  exact z_vret 45 rfl rfl
def f_X11_mustName (a0 : Nat) (σ : zS) : Option (Unit × zS) := zck (WM.2 a0 = (11, 0)) (zbr ((σ.1 a0 6) = (2 : Int32)) (zbd (f_X11_isWord a0 (1000 + 0) σ) (fun r3 σ4 => zbr (r3 = 0) (zbd (f_X11_isWord a0 (1000 + 1) σ4) (fun r5 σ6 => zbr (r5 = 0) (zbd (f_X11_isWord a0 (1000 + 2) σ6) (fun r7 σ8 => zbr (r7 = 0) (zbd (f_X11_isWord a0 (1000 + 3) σ8) (fun r9 σ10 => zbr (r9 = 0) (zbd (f_X11_isWord a0 (1000 + 4) σ10) (fun r11 σ12 => zbr (r11 = 0) (zbd (f_X11_isWord a0 (1000 + 5) σ12) (fun r13 σ14 => zbr (r13 = 0) (zbd (f_X11_isWord a0 (1000 + 6) σ14) (fun r15 σ16 => zbr (r15 = 0) (zbd (f_X11_isWord a0 (1000 + 7) σ16) (fun r17 σ18 => zbr (r17 = 0) (zbd (f_X11_isWord a0 (1000 + 8) σ18) (fun r19 σ20 => zbr (r19 = 0) (some ((), σ20)) (f_X11_mustName_89 a0 σ20))) (f_X11_mustName_89 a0 σ18))) (f_X11_mustName_89 a0 σ16))) (f_X11_mustName_89 a0 σ14))) (f_X11_mustName_89 a0 σ12))) (f_X11_mustName_89 a0 σ10))) (f_X11_mustName_89 a0 σ8))) (f_X11_mustName_89 a0 σ6))) (f_X11_mustName_89 a0 σ4))) (f_X11_mustName_89 a0 σ))
theorem c_X11_mustName (X : zX) (d : Nat) (hd : 9 ≤ d) (a0 : Nat) (σ : zS) : ∀ (r : Unit) (σ' : zS), f_X11_mustName a0 σ = some (r, σ') → zCN X WM d M_X11_mustName [.ref a0] σ (zeV r, σ') := by
  obtain ⟨d, rfl⟩ : ∃ e, d = e + 1 := ⟨d - 1, by omega⟩
  refine z_entry [.ref a0] (by decide +kernel) T_X11_mustName (Nat.le_of_ble_eq_true rfl) ?_
  show zK X WM (zrm (d + 1)) M_X11_mustName (zZ X WM zeV) 0 [some (.ref a0)] [] σ (f_X11_mustName a0 σ)
  unfold f_X11_mustName
  refine z_ck (fun h0 => ?_)
  refine z_aload0 0 1 rfl rfl ?_
  refine z_getI 1 4 6 rfl rfl zf_X11_93 rfl h0 ?_
  refine z_iconst 2 5 rfl rfl ci_2 ?_
  refine z_icmp_ne 3 8 89 rfl rfl (by decide) ?_ ?_
  · refine z_aload0 4 9 rfl rfl ?_
    refine z_ldcS 5 11 0 rfl rfl (tx := "lette\x72") (List.mem_of_getElem? (i := 18) rfl) ?_
    refine z_cV1I 6 14 rfl rfl zl_X11_120 F_X11_isWord (zR_rm (by omega)) (c_X11_isWord X d (by omega) a0 (1000 + 0) σ) ⟨by decide, rfl, rfl⟩ h0 rfl (Nat.le_of_ble_eq_true rfl) (fun r3 σ4 => ?_)
    refine z_if_ne 7 17 89 rfl rfl (by decide) ?_ ?_
    · refine z_aload0 8 18 rfl rfl ?_
      refine z_ldcS 9 20 1 rfl rfl (tx := "place") (List.mem_of_getElem? (i := 20) rfl) ?_
      refine z_cV1I 10 23 rfl rfl zl_X11_120 F_X11_isWord (zR_rm (by omega)) (c_X11_isWord X d (by omega) a0 (1000 + 1) σ4) ⟨by decide, rfl, rfl⟩ h0 rfl (Nat.le_of_ble_eq_true rfl) (fun r5 σ6 => ?_)
      refine z_if_ne 11 26 89 rfl rfl (by decide) ?_ ?_
      · refine z_aload0 12 27 rfl rfl ?_
        refine z_ldcS 13 29 2 rfl rfl (tx := "ove\x72") (List.mem_of_getElem? (i := 21) rfl) ?_
        refine z_cV1I 14 32 rfl rfl zl_X11_120 F_X11_isWord (zR_rm (by omega)) (c_X11_isWord X d (by omega) a0 (1000 + 2) σ6) ⟨by decide, rfl, rfl⟩ h0 rfl (Nat.le_of_ble_eq_true rfl) (fun r7 σ8 => ?_)
        refine z_if_ne 15 35 89 rfl rfl (by decide) ?_ ?_
        · refine z_aload0 16 36 rfl rfl ?_
          refine z_ldcS 17 38 3 rfl rfl (tx := "hand") (List.mem_of_getElem? (i := 22) rfl) ?_
          refine z_cV1I 18 41 rfl rfl zl_X11_120 F_X11_isWord (zR_rm (by omega)) (c_X11_isWord X d (by omega) a0 (1000 + 3) σ8) ⟨by decide, rfl, rfl⟩ h0 rfl (Nat.le_of_ble_eq_true rfl) (fun r9 σ10 => ?_)
          refine z_if_ne 19 44 89 rfl rfl (by decide) ?_ ?_
          · refine z_aload0 20 45 rfl rfl ?_
            refine z_ldcS 21 47 4 rfl rfl (tx := "matte\x72") (List.mem_of_getElem? (i := 23) rfl) ?_
            refine z_cV1I 22 50 rfl rfl zl_X11_120 F_X11_isWord (zR_rm (by omega)) (c_X11_isWord X d (by omega) a0 (1000 + 4) σ10) ⟨by decide, rfl, rfl⟩ h0 rfl (Nat.le_of_ble_eq_true rfl) (fun r11 σ12 => ?_)
            refine z_if_ne 23 53 89 rfl rfl (by decide) ?_ ?_
            · refine z_aload0 24 54 rfl rfl ?_
              refine z_ldcS 25 56 5 rfl rfl (tx := "wrote") (List.mem_of_getElem? (i := 24) rfl) ?_
              refine z_cV1I 26 59 rfl rfl zl_X11_120 F_X11_isWord (zR_rm (by omega)) (c_X11_isWord X d (by omega) a0 (1000 + 5) σ12) ⟨by decide, rfl, rfl⟩ h0 rfl (Nat.le_of_ble_eq_true rfl) (fun r13 σ14 => ?_)
              refine z_if_ne 27 62 89 rfl rfl (by decide) ?_ ?_
              · refine z_aload0 28 63 rfl rfl ?_
                refine z_ldcS 29 65 6 rfl rfl (tx := "hidden") (List.mem_of_getElem? (i := 25) rfl) ?_
                refine z_cV1I 30 68 rfl rfl zl_X11_120 F_X11_isWord (zR_rm (by omega)) (c_X11_isWord X d (by omega) a0 (1000 + 6) σ14) ⟨by decide, rfl, rfl⟩ h0 rfl (Nat.le_of_ble_eq_true rfl) (fun r15 σ16 => ?_)
                refine z_if_ne 31 71 89 rfl rfl (by decide) ?_ ?_
                · refine z_aload0 32 72 rfl rfl ?_
                  refine z_ldcS 33 74 7 rfl rfl (tx := "done") (List.mem_of_getElem? (i := 26) rfl) ?_
                  refine z_cV1I 34 77 rfl rfl zl_X11_120 F_X11_isWord (zR_rm (by omega)) (c_X11_isWord X d (by omega) a0 (1000 + 7) σ16) ⟨by decide, rfl, rfl⟩ h0 rfl (Nat.le_of_ble_eq_true rfl) (fun r17 σ18 => ?_)
                  refine z_if_ne 35 80 89 rfl rfl (by decide) ?_ ?_
                  · refine z_aload0 36 81 rfl rfl ?_
                    refine z_ldcS 37 83 8 rfl rfl (tx := "bid") (List.mem_of_getElem? (i := 27) rfl) ?_
                    refine z_cV1I 38 86 rfl rfl zl_X11_120 F_X11_isWord (zR_rm (by omega)) (c_X11_isWord X d (by omega) a0 (1000 + 8) σ18) ⟨by decide, rfl, rfl⟩ h0 rfl (Nat.le_of_ble_eq_true rfl) (fun r19 σ20 => ?_)
                    refine z_if_eq 39 89 98 rfl rfl (by decide) ?_ ?_
                    · exact z_vret 45 rfl rfl
                    · exact t_X11_mustName_89 X d hd a0 h0  σ20
                  · exact t_X11_mustName_89 X d hd a0 h0  σ18
                · exact t_X11_mustName_89 X d hd a0 h0  σ16
              · exact t_X11_mustName_89 X d hd a0 h0  σ14
            · exact t_X11_mustName_89 X d hd a0 h0  σ12
          · exact t_X11_mustName_89 X d hd a0 h0  σ10
        · exact t_X11_mustName_89 X d hd a0 h0  σ8
      · exact t_X11_mustName_89 X d hd a0 h0  σ6
    · exact t_X11_mustName_89 X d hd a0 h0  σ4
  · exact t_X11_mustName_89 X d hd a0 h0  σ
def f_X11_find_91 (a0 : Nat) (H2 : Int32 → zS → Option (Int32 × zS)) (x1 : Int32) (x2 : Int32) (σ : zS) : Option (Int32 × zS) := zbr (x2 = 0) (zlt (x1 + (1 : Int32)) (fun v1 => H2 v1 σ)) (some (x1, σ))
theorem t_X11_find_91 (X : zX) (d : Nat) (a0 : Nat) (h0 : WM.2 a0 = (11, 0)) (H2 : Int32 → zS → Option (Int32 × zS)) (hH2 : ∀ (x1 : Int32) (σ : zS), zK X WM (zrm d) M_X11_find (zZ X WM zeI) 2 [some (.ref a0), some (.int x1), none, none] [] σ (H2 x1 σ)) (x1 : Int32) (x2 : Int32) (σ : zS) : zK X WM (zrm d) M_X11_find (zZ X WM zeI) 91 [some (.ref a0), some (.int x1), some (.int x2), none] [] σ (f_X11_find_91 a0 H2 x1 x2 σ) := by
  unfold f_X11_find_91
  refine z_iload2 54 92 rfl rfl ?_
  refine z_if_eq 55 95 97 rfl rfl (by decide) ?_ ?_
  · refine z_iinc1 58 100 rfl rfl ci_1 rfl (fun v1 => ?_)
    refine z_goto 59 2 rfl (by decide) ?_
    exact z_wk (zle_e (zle_e (zle_n (zle_e zle_0)))) (hH2 v1 σ)
  · refine z_iload1 56 96 rfl rfl ?_
    exact z_iret 57 rfl rfl
def f_X11_find_84 (a0 : Nat) (H2 : Int32 → zS → Option (Int32 × zS)) (H44 : Int32 → Int32 → Int32 → zS → Option (Int32 × zS)) (x1 : Int32) (x3 : Int32) (s0 : Int32) (σ : zS) : Option (Int32 × zS) := zlt s0 (fun v2 => zlt (x3 + (1 : Int32)) (fun v3 => H44 x1 v2 v3 σ))
theorem t_X11_find_84 (X : zX) (d : Nat) (a0 : Nat) (h0 : WM.2 a0 = (11, 0)) (H2 : Int32 → zS → Option (Int32 × zS)) (hH2 : ∀ (x1 : Int32) (σ : zS), zK X WM (zrm d) M_X11_find (zZ X WM zeI) 2 [some (.ref a0), some (.int x1), none, none] [] σ (H2 x1 σ)) (H44 : Int32 → Int32 → Int32 → zS → Option (Int32 × zS)) (hH44 : ∀ (x1 : Int32) (x2 : Int32) (x3 : Int32) (σ : zS), zK X WM (zrm d) M_X11_find (zZ X WM zeI) 44 [some (.ref a0), some (.int x1), some (.int x2), some (.int x3)] [] σ (H44 x1 x2 x3 σ)) (x1 : Int32) (x3 : Int32) (s0 : Int32) (σ : zS) : zK X WM (zrm d) M_X11_find (zZ X WM zeI) 84 [some (.ref a0), some (.int x1), none, some (.int x3)] [.int s0] σ (f_X11_find_84 a0 H2 H44 x1 x3 s0 σ) := by
  unfold f_X11_find_84
  refine z_istore2 51 85 rfl rfl rfl (fun v2 => ?_)
  refine z_iinc3 52 88 rfl rfl ci_1 rfl (fun v3 => ?_)
  refine z_goto 53 44 rfl (by decide) ?_
  exact hH44 x1 v2 v3 σ
def f_X11_find_44 (a0 : Nat) (H2 : Int32 → zS → Option (Int32 × zS)) : Nat → Int32 → Int32 → Int32 → zS → Option (Int32 × zS)
  | 0, _, _, _, _ => none
  | n + 1, x1, x2, x3, σ => zbr ((σ.1 a0 8) ≤ x3) (f_X11_find_91 a0 H2 x1 x2 σ) (zbr (x2 = 0) (f_X11_find_91 a0 H2 x1 x2 σ) (zck (zok 100 (WM.2 (σ.2 a0 16)) (((83 : Int32) + ((8 : Int32) * x1)) + x3)) (zck (zok 100 (WM.2 (σ.2 a0 12)) x3) (zbr ((σ.1 (σ.2 a0 16) (((83 : Int32) + ((8 : Int32) * x1)) + x3).toNatClampNeg) = (σ.1 (σ.2 a0 12) x3.toNatClampNeg)) (f_X11_find_84 a0 H2 (f_X11_find_44 a0 H2 n) x1 x3 (1 : Int32) σ) (f_X11_find_84 a0 H2 (f_X11_find_44 a0 H2 n) x1 x3 (0 : Int32) σ)))))
theorem t_X11_find_44 (X : zX) (d : Nat) (a0 : Nat) (h0 : WM.2 a0 = (11, 0)) (H2 : Int32 → zS → Option (Int32 × zS)) (hH2 : ∀ (x1 : Int32) (σ : zS), zK X WM (zrm d) M_X11_find (zZ X WM zeI) 2 [some (.ref a0), some (.int x1), none, none] [] σ (H2 x1 σ)) : ∀ (n : Nat) (x1 : Int32) (x2 : Int32) (x3 : Int32) (σ : zS), zK X WM (zrm d) M_X11_find (zZ X WM zeI) 44 [some (.ref a0), some (.int x1), some (.int x2), some (.int x3)] [] σ (f_X11_find_44 a0 H2 n x1 x2 x3 σ) := by
  intro n
  induction n with
  | zero => intro x1 x2 x3 σ; exact z_none
  | succ n ih =>
    intro x1 x2 x3 σ
    rw [f_X11_find_44]
    refine z_iload3 27 45 rfl rfl ?_
    refine z_aload0 28 46 rfl rfl ?_
    refine z_getI 29 49 8 rfl rfl zf_X11_87 rfl h0 ?_
    refine z_icmp_ge 30 52 91 rfl rfl (by decide) ?_ ?_
    · exact z_wk (zle_e (zle_e (zle_e (zle_n zle_0)))) (t_X11_find_91 X d a0 h0 H2 hH2 x1 x2 σ)
    · refine z_iload2 31 53 rfl rfl ?_
      refine z_if_eq 32 56 91 rfl rfl (by decide) ?_ ?_
      · exact z_wk (zle_e (zle_e (zle_e (zle_n zle_0)))) (t_X11_find_91 X d a0 h0 H2 hH2 x1 x2 σ)
      · refine z_aload0 33 57 rfl rfl ?_
        refine z_getR 34 60 16 rfl rfl zf_X11_23 rfl h0 ?_
        refine z_bipush 35 62 rfl rfl cb_83 ?_
        refine z_bipush 36 64 rfl rfl cb_8 ?_
        refine z_iload1 37 65 rfl rfl ?_
        refine z_imul 38 66 rfl rfl ?_
        refine z_iadd 39 67 rfl rfl ?_
        refine z_iload3 40 68 rfl rfl ?_
        refine z_iadd 41 69 rfl rfl ?_
        refine z_iald 42 70 rfl rfl ?_
        refine z_aload0 43 71 rfl rfl ?_
        refine z_getR 44 74 12 rfl rfl zf_X11_17 rfl h0 ?_
        refine z_iload3 45 75 rfl rfl ?_
        refine z_iald 46 76 rfl rfl ?_
        refine z_icmp_ne 47 79 83 rfl rfl (by decide) ?_ ?_
        · refine z_iconst 48 80 rfl rfl ci_1 ?_
          refine z_goto 49 84 rfl (by decide) ?_
          exact z_wk (zle_e (zle_e (zle_n (zle_e zle_0)))) (t_X11_find_84 X d a0 h0 H2 hH2 (f_X11_find_44 a0 H2 n) ih x1 x3 (1 : Int32) σ)
        · refine z_iconst 50 84 rfl rfl ci_0 ?_
          exact z_wk (zle_e (zle_e (zle_n (zle_e zle_0)))) (t_X11_find_84 X d a0 h0 H2 hH2 (f_X11_find_44 a0 H2 n) ih x1 x3 (0 : Int32) σ)
def f_X11_find_41 (a0 : Nat) (H2 : Int32 → zS → Option (Int32 × zS)) (x1 : Int32) (s0 : Int32) (σ : zS) : Option (Int32 × zS) := zlt s0 (fun v4 => zlt (0 : Int32) (fun v5 => f_X11_find_44 a0 H2 FU x1 v4 v5 σ))
theorem t_X11_find_41 (X : zX) (d : Nat) (a0 : Nat) (h0 : WM.2 a0 = (11, 0)) (H2 : Int32 → zS → Option (Int32 × zS)) (hH2 : ∀ (x1 : Int32) (σ : zS), zK X WM (zrm d) M_X11_find (zZ X WM zeI) 2 [some (.ref a0), some (.int x1), none, none] [] σ (H2 x1 σ)) (x1 : Int32) (s0 : Int32) (σ : zS) : zK X WM (zrm d) M_X11_find (zZ X WM zeI) 41 [some (.ref a0), some (.int x1), none, none] [.int s0] σ (f_X11_find_41 a0 H2 x1 s0 σ) := by
  unfold f_X11_find_41
  refine z_istore2 24 42 rfl rfl rfl (fun v4 => ?_)
  refine z_iconst 25 43 rfl rfl ci_0 ?_
  refine z_istore3 26 44 rfl rfl rfl (fun v5 => ?_)
  exact t_X11_find_44 X d a0 h0 H2 hH2 FU x1 v4 v5 σ
def f_X11_find_40 (a0 : Nat) (H2 : Int32 → zS → Option (Int32 × zS)) (x1 : Int32) (σ : zS) : Option (Int32 × zS) := f_X11_find_41 a0 H2 x1 (0 : Int32) σ
theorem t_X11_find_40 (X : zX) (d : Nat) (a0 : Nat) (h0 : WM.2 a0 = (11, 0)) (H2 : Int32 → zS → Option (Int32 × zS)) (hH2 : ∀ (x1 : Int32) (σ : zS), zK X WM (zrm d) M_X11_find (zZ X WM zeI) 2 [some (.ref a0), some (.int x1), none, none] [] σ (H2 x1 σ)) (x1 : Int32) (σ : zS) : zK X WM (zrm d) M_X11_find (zZ X WM zeI) 40 [some (.ref a0), some (.int x1), none, none] [] σ (f_X11_find_40 a0 H2 x1 σ) := by
  unfold f_X11_find_40
  refine z_iconst 23 41 rfl rfl ci_0 ?_
  exact t_X11_find_41 X d a0 h0 H2 hH2 x1 (0 : Int32) σ
def f_X11_find_2 (a0 : Nat) : Nat → Int32 → zS → Option (Int32 × zS)
  | 0, _, _ => none
  | n + 1, x1, σ => zbr ((14 : Int32) ≤ x1) (some ((-1 : Int32), σ)) (zck (zok 100 (WM.2 (σ.2 a0 16)) ((69 : Int32) + x1)) (zbr ((σ.1 (σ.2 a0 16) ((69 : Int32) + x1).toNatClampNeg) ≤ 0) (f_X11_find_40 a0 (f_X11_find_2 a0 n) x1 σ) (zck (zok 100 (WM.2 (σ.2 a0 16)) ((69 : Int32) + x1)) (zbr ((σ.1 (σ.2 a0 16) ((69 : Int32) + x1).toNatClampNeg) = (σ.1 a0 8)) (f_X11_find_41 a0 (f_X11_find_2 a0 n) x1 (1 : Int32) σ) (f_X11_find_40 a0 (f_X11_find_2 a0 n) x1 σ)))))
theorem t_X11_find_2 (X : zX) (d : Nat) (a0 : Nat) (h0 : WM.2 a0 = (11, 0)) : ∀ (n : Nat) (x1 : Int32) (σ : zS), zK X WM (zrm d) M_X11_find (zZ X WM zeI) 2 [some (.ref a0), some (.int x1), none, none] [] σ (f_X11_find_2 a0 n x1 σ) := by
  intro n
  induction n with
  | zero => intro x1 σ; exact z_none
  | succ n ih =>
    intro x1 σ
    rw [f_X11_find_2]
    refine z_iload1 2 3 rfl rfl ?_
    refine z_bipush 3 5 rfl rfl cb_14 ?_
    refine z_icmp_ge 4 8 103 rfl rfl (by decide) ?_ ?_
    · refine z_iconst 60 104 rfl rfl ci_m1 ?_
      exact z_iret 61 rfl rfl
    · refine z_aload0 5 9 rfl rfl ?_
      refine z_getR 6 12 16 rfl rfl zf_X11_23 rfl h0 ?_
      refine z_bipush 7 14 rfl rfl cb_69 ?_
      refine z_iload1 8 15 rfl rfl ?_
      refine z_iadd 9 16 rfl rfl ?_
      refine z_iald 10 17 rfl rfl ?_
      refine z_if_le 11 20 40 rfl rfl (by decide) ?_ ?_
      · exact t_X11_find_40 X d a0 h0 (f_X11_find_2 a0 n) ih x1 σ
      · refine z_aload0 12 21 rfl rfl ?_
        refine z_getR 13 24 16 rfl rfl zf_X11_23 rfl h0 ?_
        refine z_bipush 14 26 rfl rfl cb_69 ?_
        refine z_iload1 15 27 rfl rfl ?_
        refine z_iadd 16 28 rfl rfl ?_
        refine z_iald 17 29 rfl rfl ?_
        refine z_aload0 18 30 rfl rfl ?_
        refine z_getI 19 33 8 rfl rfl zf_X11_87 rfl h0 ?_
        refine z_icmp_ne 20 36 40 rfl rfl (by decide) ?_ ?_
        · refine z_iconst 21 37 rfl rfl ci_1 ?_
          refine z_goto 22 41 rfl (by decide) ?_
          exact t_X11_find_41 X d a0 h0 (f_X11_find_2 a0 n) ih x1 (1 : Int32) σ
        · exact t_X11_find_40 X d a0 h0 (f_X11_find_2 a0 n) ih x1 σ
def f_X11_find (a0 : Nat) (σ : zS) : Option (Int32 × zS) := zck (WM.2 a0 = (11, 0)) (zlt (0 : Int32) (fun v6 => f_X11_find_2 a0 FU v6 σ))
theorem c_X11_find (X : zX) (d : Nat) (a0 : Nat) (σ : zS) : ∀ (r : Int32) (σ' : zS), f_X11_find a0 σ = some (r, σ') → zCN X WM d M_X11_find [.ref a0] σ (zeI r, σ') := by
  refine z_entry [.ref a0] (by decide +kernel) T_X11_find (Nat.le_of_ble_eq_true rfl) ?_
  show zK X WM (zrm d) M_X11_find (zZ X WM zeI) 0 [some (.ref a0), none, none, none] [] σ (f_X11_find a0 σ)
  unfold f_X11_find
  refine z_ck (fun h0 => ?_)
  refine z_iconst 0 1 rfl rfl ci_0 ?_
  refine z_istore1 1 2 rfl rfl rfl (fun v6 => ?_)
  exact t_X11_find_2 X d a0 h0  FU v6 σ
def f_X11_newName_45 (a0 : Nat) : Nat → Int32 → Int32 → zS → Option (Unit × zS)
  | 0, _, _, _ => none
  | n + 1, x1, x2, σ => zbr ((σ.1 a0 8) ≤ x2) (zck (zok 100 (WM.2 (σ.2 a0 16)) ((69 : Int32) + x1)) (zlt (zpi σ (σ.2 a0 16) ((69 : Int32) + x1).toNatClampNeg (σ.1 a0 8)) (fun σ1 => zbd (f_X11_next a0 σ1) (fun r2 σ3 => some ((), σ3))))) (zck (zok 100 (WM.2 (σ.2 a0 12)) x2) (zck (zok 100 (WM.2 (σ.2 a0 16)) (((83 : Int32) + ((8 : Int32) * x1)) + x2)) (zlt (zpi σ (σ.2 a0 16) (((83 : Int32) + ((8 : Int32) * x1)) + x2).toNatClampNeg (σ.1 (σ.2 a0 12) x2.toNatClampNeg)) (fun σ4 => zlt (x2 + (1 : Int32)) (fun v5 => f_X11_newName_45 a0 n x1 v5 σ4)))))
theorem t_X11_newName_45 (X : zX) (d : Nat) (hd : 10 ≤ d + 1) (a0 : Nat) (h0 : WM.2 a0 = (11, 0)) : ∀ (n : Nat) (x1 : Int32) (x2 : Int32) (σ : zS), zK X WM (zrm (d + 1)) M_X11_newName (zZ X WM zeV) 45 [some (.ref a0), some (.int x1), some (.int x2)] [] σ (f_X11_newName_45 a0 n x1 x2 σ) := by
  intro n
  induction n with
  | zero => intro x1 x2 σ; exact z_none
  | succ n ih =>
    intro x1 x2 σ
    rw [f_X11_newName_45]
    refine z_iload2 23 46 rfl rfl ?_
    refine z_aload0 24 47 rfl rfl ?_
    refine z_getI 25 50 8 rfl rfl zf_X11_87 rfl h0 ?_
    refine z_icmp_ge 26 53 79 rfl rfl (by decide) ?_ ?_
    · refine z_aload0 43 80 rfl rfl ?_
      refine z_getR 44 83 16 rfl rfl zf_X11_23 rfl h0 ?_
      refine z_bipush 45 85 rfl rfl cb_69 ?_
      refine z_iload1 46 86 rfl rfl ?_
      refine z_iadd 47 87 rfl rfl ?_
      refine z_aload0 48 88 rfl rfl ?_
      refine z_getI 49 91 8 rfl rfl zf_X11_87 rfl h0 ?_
      refine z_iast 50 92 rfl rfl (fun σ1 => ?_)
      refine z_aload0 51 93 rfl rfl ?_
      refine z_cV0V 52 96 rfl rfl zl_X11_124 F_X11_next (zR_rm (by omega)) (c_X11_next X d (by omega) a0 σ1) ⟨by decide, rfl, rfl⟩ h0 rfl (Nat.le_of_ble_eq_true rfl) (fun r2 σ3 => ?_)
      exact z_vret 53 rfl rfl
    · refine z_aload0 27 54 rfl rfl ?_
      refine z_getR 28 57 16 rfl rfl zf_X11_23 rfl h0 ?_
      refine z_bipush 29 59 rfl rfl cb_83 ?_
      refine z_bipush 30 61 rfl rfl cb_8 ?_
      refine z_iload1 31 62 rfl rfl ?_
      refine z_imul 32 63 rfl rfl ?_
      refine z_iadd 33 64 rfl rfl ?_
      refine z_iload2 34 65 rfl rfl ?_
      refine z_iadd 35 66 rfl rfl ?_
      refine z_aload0 36 67 rfl rfl ?_
      refine z_getR 37 70 12 rfl rfl zf_X11_17 rfl h0 ?_
      refine z_iload2 38 71 rfl rfl ?_
      refine z_iald 39 72 rfl rfl ?_
      refine z_iast 40 73 rfl rfl (fun σ4 => ?_)
      refine z_iinc2 41 76 rfl rfl ci_1 rfl (fun v5 => ?_)
      refine z_goto 42 45 rfl (by decide) ?_
      exact ih x1 v5 σ4
def f_X11_newName_35 (a0 : Nat) (x1 : Int32) (σ : zS) : Option (Unit × zS) := zbr ((σ.1 a0 13) = 0) (zlt (0 : Int32) (fun v6 => f_X11_newName_45 a0 FU x1 v6 σ)) (some ((), σ))
theorem t_X11_newName_35 (X : zX) (d : Nat) (hd : 10 ≤ d + 1) (a0 : Nat) (h0 : WM.2 a0 = (11, 0)) (x1 : Int32) (σ : zS) : zK X WM (zrm (d + 1)) M_X11_newName (zZ X WM zeV) 35 [some (.ref a0), some (.int x1), none] [] σ (f_X11_newName_35 a0 x1 σ) := by
  unfold f_X11_newName_35
  refine z_aload0 17 36 rfl rfl ?_
  refine z_getI 18 39 13 rfl rfl zf_X11_103 rfl h0 ?_
  refine z_if_eq 19 42 43 rfl rfl (by decide) ?_ ?_
  · refine z_iconst 21 44 rfl rfl ci_0 ?_
    refine z_istore2 22 45 rfl rfl rfl (fun v6 => ?_)
    exact t_X11_newName_45 X d hd a0 h0  FU x1 v6 σ
  · exact z_vret 20 rfl rfl
def f_X11_newName (a0 : Nat) (x1 : Int32) (σ : zS) : Option (Unit × zS) := zck (WM.2 a0 = (11, 0)) (zbr ((σ.1 a0 13) = 0) (zbd (f_X11_mustName a0 σ) (fun r7 σ8 => zbr ((σ8.1 a0 13) = 0) (zbd (f_X11_find a0 σ8) (fun r9 σ10 => zbr (r9 < 0) (f_X11_newName_35 a0 x1 σ10) (zbd (f_X11_wrong a0 (3 : Int32) (σ10.1 a0 4) σ10) (fun r11 σ12 => f_X11_newName_35 a0 x1 σ12)))) (f_X11_newName_35 a0 x1 σ8))) (some ((), σ)))
theorem c_X11_newName (X : zX) (d : Nat) (hd : 10 ≤ d) (a0 : Nat) (x1 : Int32) (σ : zS) : ∀ (r : Unit) (σ' : zS), f_X11_newName a0 x1 σ = some (r, σ') → zCN X WM d M_X11_newName [.ref a0, .int x1] σ (zeV r, σ') := by
  obtain ⟨d, rfl⟩ : ∃ e, d = e + 1 := ⟨d - 1, by omega⟩
  refine z_entry [.ref a0, .int x1] (by decide +kernel) T_X11_newName (Nat.le_of_ble_eq_true rfl) ?_
  show zK X WM (zrm (d + 1)) M_X11_newName (zZ X WM zeV) 0 [some (.ref a0), some (.int x1), none] [] σ (f_X11_newName a0 x1 σ)
  unfold f_X11_newName
  refine z_ck (fun h0 => ?_)
  refine z_aload0 0 1 rfl rfl ?_
  refine z_getI 1 4 13 rfl rfl zf_X11_103 rfl h0 ?_
  refine z_if_eq 2 7 8 rfl rfl (by decide) ?_ ?_
  · refine z_aload0 4 9 rfl rfl ?_
    refine z_cV0V 5 12 rfl rfl zl_X11_151 F_X11_mustName (zR_rm (by omega)) (c_X11_mustName X d (by omega) a0 σ) ⟨by decide, rfl, rfl⟩ h0 rfl (Nat.le_of_ble_eq_true rfl) (fun r7 σ8 => ?_)
    refine z_aload0 6 13 rfl rfl ?_
    refine z_getI 7 16 13 rfl rfl zf_X11_103 rfl h0 ?_
    refine z_if_ne 8 19 35 rfl rfl (by decide) ?_ ?_
    · refine z_aload0 9 20 rfl rfl ?_
      refine z_cV0I 10 23 rfl rfl zl_X11_154 F_X11_find (zR_rm (by omega)) (c_X11_find X d a0 σ8) ⟨by decide, rfl, rfl⟩ h0 rfl (Nat.le_of_ble_eq_true rfl) (fun r9 σ10 => ?_)
      refine z_if_lt 11 26 35 rfl rfl (by decide) ?_ ?_
      · exact t_X11_newName_35 X d hd a0 h0  x1 σ10
      · refine z_aload0 12 27 rfl rfl ?_
        refine z_iconst 13 28 rfl rfl ci_3 ?_
        refine z_aload0 14 29 rfl rfl ?_
        refine z_getI 15 32 4 rfl rfl zf_X11_84 rfl h0 ?_
        refine z_cV2V 16 35 rfl rfl zl_X11_130 F_X11_wrong (zR_rm (by omega)) (c_X11_wrong X d a0 (3 : Int32) (σ10.1 a0 4) σ10) ⟨by decide, rfl, rfl⟩ h0 rfl (Nat.le_of_ble_eq_true rfl) (fun r11 σ12 => ?_)
        exact t_X11_newName_35 X d hd a0 h0  x1 σ12
    · exact t_X11_newName_35 X d hd a0 h0  x1 σ8
  · exact z_vret 3 rfl rfl
def f_X11_named_45 (a0 : Nat) (x1 : Int32) (x3 : Int32) (σ : zS) : Option (Int32 × zS) := zbr ((σ.1 a0 13) = 0) (some ((x3 - x1), σ)) (some ((0 : Int32), σ))
theorem t_X11_named_45 (X : zX) (d : Nat) (hd : 10 ≤ d + 1) (a0 : Nat) (h0 : WM.2 a0 = (11, 0)) (x1 : Int32) (x3 : Int32) (σ : zS) : zK X WM (zrm (d + 1)) M_X11_named (zZ X WM zeI) 45 [some (.ref a0), some (.int x1), none, some (.int x3)] [] σ (f_X11_named_45 a0 x1 x3 σ) := by
  unfold f_X11_named_45
  refine z_aload0 25 46 rfl rfl ?_
  refine z_getI 26 49 13 rfl rfl zf_X11_103 rfl h0 ?_
  refine z_if_eq 27 52 56 rfl rfl (by decide) ?_ ?_
  · refine z_iload3 30 57 rfl rfl ?_
    refine z_iload1 31 58 rfl rfl ?_
    refine z_isub 32 59 rfl rfl ?_
    exact z_iret 33 rfl rfl
  · refine z_iconst 28 53 rfl rfl ci_0 ?_
    refine z_goto 29 59 rfl (by decide) ?_
    exact z_iret 33 rfl rfl
def f_X11_named (a0 : Nat) (x1 : Int32) (x2 : Int32) (σ : zS) : Option (Int32 × zS) := zck (WM.2 a0 = (11, 0)) (zbr ((σ.1 a0 13) = 0) (zbd (f_X11_mustName a0 σ) (fun r1 σ2 => zbr ((σ2.1 a0 13) = 0) (zbd (f_X11_find a0 σ2) (fun r3 σ4 => zlt r3 (fun v5 => zbd (f_X11_in v5 x1 x2 σ4) (fun r6 σ7 => zbr (r6 = 0) (zbd (f_X11_wrong a0 (2 : Int32) (σ7.1 a0 4) σ7) (fun r8 σ9 => f_X11_named_45 a0 x1 v5 σ9)) (f_X11_named_45 a0 x1 v5 σ7))))) (some ((0 : Int32), σ2)))) (some ((0 : Int32), σ)))
theorem c_X11_named (X : zX) (d : Nat) (hd : 10 ≤ d) (a0 : Nat) (x1 : Int32) (x2 : Int32) (σ : zS) : ∀ (r : Int32) (σ' : zS), f_X11_named a0 x1 x2 σ = some (r, σ') → zCN X WM d M_X11_named [.ref a0, .int x1, .int x2] σ (zeI r, σ') := by
  obtain ⟨d, rfl⟩ : ∃ e, d = e + 1 := ⟨d - 1, by omega⟩
  refine z_entry [.ref a0, .int x1, .int x2] (by decide +kernel) T_X11_named (Nat.le_of_ble_eq_true rfl) ?_
  show zK X WM (zrm (d + 1)) M_X11_named (zZ X WM zeI) 0 [some (.ref a0), some (.int x1), some (.int x2), none] [] σ (f_X11_named a0 x1 x2 σ)
  unfold f_X11_named
  refine z_ck (fun h0 => ?_)
  refine z_aload0 0 1 rfl rfl ?_
  refine z_getI 1 4 13 rfl rfl zf_X11_103 rfl h0 ?_
  refine z_if_eq 2 7 9 rfl rfl (by decide) ?_ ?_
  · refine z_aload0 5 10 rfl rfl ?_
    refine z_cV0V 6 13 rfl rfl zl_X11_151 F_X11_mustName (zR_rm (by omega)) (c_X11_mustName X d (by omega) a0 σ) ⟨by decide, rfl, rfl⟩ h0 rfl (Nat.le_of_ble_eq_true rfl) (fun r1 σ2 => ?_)
    refine z_aload0 7 14 rfl rfl ?_
    refine z_getI 8 17 13 rfl rfl zf_X11_103 rfl h0 ?_
    refine z_if_eq 9 20 22 rfl rfl (by decide) ?_ ?_
    · refine z_aload0 12 23 rfl rfl ?_
      refine z_cV0I 13 26 rfl rfl zl_X11_154 F_X11_find (zR_rm (by omega)) (c_X11_find X d a0 σ2) ⟨by decide, rfl, rfl⟩ h0 rfl (Nat.le_of_ble_eq_true rfl) (fun r3 σ4 => ?_)
      refine z_istore3 14 27 rfl rfl rfl (fun v5 => ?_)
      refine z_iload3 15 28 rfl rfl ?_
      refine z_iload1 16 29 rfl rfl ?_
      refine z_iload2 17 30 rfl rfl ?_
      refine z_cS3I 18 33 rfl rfl zl_X11_157 F_X11_in (zR_rm (by omega)) (c_X11_in X d v5 x1 x2 σ4) rfl (Nat.le_of_ble_eq_true rfl) (fun r6 σ7 => ?_)
      refine z_if_ne 19 36 45 rfl rfl (by decide) ?_ ?_
      · refine z_aload0 20 37 rfl rfl ?_
        refine z_iconst 21 38 rfl rfl ci_2 ?_
        refine z_aload0 22 39 rfl rfl ?_
        refine z_getI 23 42 4 rfl rfl zf_X11_84 rfl h0 ?_
        refine z_cV2V 24 45 rfl rfl zl_X11_130 F_X11_wrong (zR_rm (by omega)) (c_X11_wrong X d a0 (2 : Int32) (σ7.1 a0 4) σ7) ⟨by decide, rfl, rfl⟩ h0 rfl (Nat.le_of_ble_eq_true rfl) (fun r8 σ9 => ?_)
        exact z_wk (zle_e (zle_e (zle_n (zle_e zle_0)))) (t_X11_named_45 X d hd a0 h0  x1 v5 σ9)
      · exact z_wk (zle_e (zle_e (zle_n (zle_e zle_0)))) (t_X11_named_45 X d hd a0 h0  x1 v5 σ7)
    · refine z_iconst 10 21 rfl rfl ci_0 ?_
      exact z_iret 11 rfl rfl
  · refine z_iconst 3 8 rfl rfl ci_0 ?_
    exact z_iret 4 rfl rfl
def f_X11_pass (a0 : Nat) (σ : zS) : Option (Unit × zS) := zck (WM.2 a0 = (11, 0)) (zbr ((σ.1 a0 13) = 0) (zbd (f_X11_next a0 σ) (fun r1 σ2 => some ((), σ2))) (some ((), σ)))
theorem c_X11_pass (X : zX) (d : Nat) (hd : 2 ≤ d) (a0 : Nat) (σ : zS) : ∀ (r : Unit) (σ' : zS), f_X11_pass a0 σ = some (r, σ') → zCN X WM d M_X11_pass [.ref a0] σ (zeV r, σ') := by
  obtain ⟨d, rfl⟩ : ∃ e, d = e + 1 := ⟨d - 1, by omega⟩
  refine z_entry [.ref a0] (by decide +kernel) T_X11_pass (Nat.le_of_ble_eq_true rfl) ?_
  show zK X WM (zrm (d + 1)) M_X11_pass (zZ X WM zeV) 0 [some (.ref a0)] [] σ (f_X11_pass a0 σ)
  unfold f_X11_pass
  refine z_ck (fun h0 => ?_)
  refine z_aload0 0 1 rfl rfl ?_
  refine z_getI 1 4 13 rfl rfl zf_X11_103 rfl h0 ?_
  refine z_if_ne 2 7 11 rfl rfl (by decide) ?_ ?_
  · refine z_aload0 3 8 rfl rfl ?_
    refine z_cV0V 4 11 rfl rfl zl_X11_124 F_X11_next (zR_rm (by omega)) (c_X11_next X d (by omega) a0 σ) ⟨by decide, rfl, rfl⟩ h0 rfl (Nat.le_of_ble_eq_true rfl) (fun r1 σ2 => ?_)
    exact z_vret 5 rfl rfl
  · exact z_vret 5 rfl rfl
def f_X11_placePassed (a0 : Nat) (σ : zS) : Option (Int32 × zS) := zck (WM.2 a0 = (11, 0)) (zbd (f_X11_named a0 (0 : Int32) (5 : Int32) σ) (fun r1 σ2 => zlt r1 (fun v3 => zbd (f_X11_pass a0 σ2) (fun r4 σ5 => some (v3, σ5)))))
theorem c_X11_placePassed (X : zX) (d : Nat) (hd : 11 ≤ d) (a0 : Nat) (σ : zS) : ∀ (r : Int32) (σ' : zS), f_X11_placePassed a0 σ = some (r, σ') → zCN X WM d M_X11_placePassed [.ref a0] σ (zeI r, σ') := by
  obtain ⟨d, rfl⟩ : ∃ e, d = e + 1 := ⟨d - 1, by omega⟩
  refine z_entry [.ref a0] (by decide +kernel) T_X11_placePassed (Nat.le_of_ble_eq_true rfl) ?_
  show zK X WM (zrm (d + 1)) M_X11_placePassed (zZ X WM zeI) 0 [some (.ref a0), none] [] σ (f_X11_placePassed a0 σ)
  unfold f_X11_placePassed
  refine z_ck (fun h0 => ?_)
  refine z_aload0 0 1 rfl rfl ?_
  refine z_iconst 1 2 rfl rfl ci_0 ?_
  refine z_iconst 2 3 rfl rfl ci_5 ?_
  refine z_cV2I 3 6 rfl rfl zl_X11_161 F_X11_named (zR_rm (by omega)) (c_X11_named X d (by omega) a0 (0 : Int32) (5 : Int32) σ) ⟨by decide, rfl, rfl⟩ h0 rfl (Nat.le_of_ble_eq_true rfl) (fun r1 σ2 => ?_)
  refine z_istore1 4 7 rfl rfl rfl (fun v3 => ?_)
  refine z_aload0 5 8 rfl rfl ?_
  refine z_cV0V 6 11 rfl rfl zl_X11_165 F_X11_pass (zR_rm (by omega)) (c_X11_pass X d (by omega) a0 σ2) ⟨by decide, rfl, rfl⟩ h0 rfl (Nat.le_of_ble_eq_true rfl) (fun r4 σ5 => ?_)
  refine z_iload1 7 12 rfl rfl ?_
  exact z_iret 8 rfl rfl
def f_X11_handPassed (a0 : Nat) (σ : zS) : Option (Int32 × zS) := zck (WM.2 a0 = (11, 0)) (zbd (f_X11_named a0 (6 : Int32) (9 : Int32) σ) (fun r1 σ2 => zlt r1 (fun v3 => zbd (f_X11_pass a0 σ2) (fun r4 σ5 => some (v3, σ5)))))
theorem c_X11_handPassed (X : zX) (d : Nat) (hd : 11 ≤ d) (a0 : Nat) (σ : zS) : ∀ (r : Int32) (σ' : zS), f_X11_handPassed a0 σ = some (r, σ') → zCN X WM d M_X11_handPassed [.ref a0] σ (zeI r, σ') := by
  obtain ⟨d, rfl⟩ : ∃ e, d = e + 1 := ⟨d - 1, by omega⟩
  refine z_entry [.ref a0] (by decide +kernel) T_X11_handPassed (Nat.le_of_ble_eq_true rfl) ?_
  show zK X WM (zrm (d + 1)) M_X11_handPassed (zZ X WM zeI) 0 [some (.ref a0), none] [] σ (f_X11_handPassed a0 σ)
  unfold f_X11_handPassed
  refine z_ck (fun h0 => ?_)
  refine z_aload0 0 1 rfl rfl ?_
  refine z_bipush 1 3 rfl rfl cb_6 ?_
  refine z_bipush 2 5 rfl rfl cb_9 ?_
  refine z_cV2I 3 8 rfl rfl zl_X11_161 F_X11_named (zR_rm (by omega)) (c_X11_named X d (by omega) a0 (6 : Int32) (9 : Int32) σ) ⟨by decide, rfl, rfl⟩ h0 rfl (Nat.le_of_ble_eq_true rfl) (fun r1 σ2 => ?_)
  refine z_istore1 4 9 rfl rfl rfl (fun v3 => ?_)
  refine z_aload0 5 10 rfl rfl ?_
  refine z_cV0V 6 13 rfl rfl zl_X11_165 F_X11_pass (zR_rm (by omega)) (c_X11_pass X d (by omega) a0 σ2) ⟨by decide, rfl, rfl⟩ h0 rfl (Nat.le_of_ble_eq_true rfl) (fun r4 σ5 => ?_)
  refine z_iload1 7 14 rfl rfl ?_
  exact z_iret 8 rfl rfl
def f_X11_numberHere_50 (a0 : Nat) (x1 : Int32) (σ : zS) : Option (Int32 × zS) := zbr ((σ.1 a0 13) = 0) (some ((σ.1 a0 7), σ)) (some (x1, σ))
theorem t_X11_numberHere_50 (X : zX) (d : Nat) (hd : 1 ≤ d + 1) (a0 : Nat) (h0 : WM.2 a0 = (11, 0)) (x1 : Int32) (σ : zS) : zK X WM (zrm (d + 1)) M_X11_numberHere (zZ X WM zeI) 50 [some (.ref a0), some (.int x1), none] [] σ (f_X11_numberHere_50 a0 x1 σ) := by
  unfold f_X11_numberHere_50
  refine z_aload0 26 51 rfl rfl ?_
  refine z_getI 27 54 13 rfl rfl zf_X11_103 rfl h0 ?_
  refine z_if_eq 28 57 61 rfl rfl (by decide) ?_ ?_
  · refine z_aload0 31 62 rfl rfl ?_
    refine z_getI 32 65 7 rfl rfl zf_X11_90 rfl h0 ?_
    exact z_iret 33 rfl rfl
  · refine z_iload1 29 58 rfl rfl ?_
    refine z_goto 30 65 rfl (by decide) ?_
    exact z_iret 33 rfl rfl
def f_X11_numberHere (a0 : Nat) (x1 : Int32) (x2 : Int32) (σ : zS) : Option (Int32 × zS) := zck (WM.2 a0 = (11, 0)) (zbr ((σ.1 a0 13) = 0) (zbr ((σ.1 a0 6) = (3 : Int32)) (zbd (f_X11_in (σ.1 a0 7) x1 x2 σ) (fun r1 σ2 => zbr (r1 = 0) (zbd (f_X11_wrong a0 (4 : Int32) (σ2.1 a0 4) σ2) (fun r3 σ4 => f_X11_numberHere_50 a0 x1 σ4)) (f_X11_numberHere_50 a0 x1 σ2))) (zbd (f_X11_wrong a0 (1 : Int32) (σ.1 a0 4) σ) (fun r5 σ6 => f_X11_numberHere_50 a0 x1 σ6))) (some (x1, σ)))
theorem c_X11_numberHere (X : zX) (d : Nat) (hd : 1 ≤ d) (a0 : Nat) (x1 : Int32) (x2 : Int32) (σ : zS) : ∀ (r : Int32) (σ' : zS), f_X11_numberHere a0 x1 x2 σ = some (r, σ') → zCN X WM d M_X11_numberHere [.ref a0, .int x1, .int x2] σ (zeI r, σ') := by
  obtain ⟨d, rfl⟩ : ∃ e, d = e + 1 := ⟨d - 1, by omega⟩
  refine z_entry [.ref a0, .int x1, .int x2] (by decide +kernel) T_X11_numberHere (Nat.le_of_ble_eq_true rfl) ?_
  show zK X WM (zrm (d + 1)) M_X11_numberHere (zZ X WM zeI) 0 [some (.ref a0), some (.int x1), some (.int x2)] [] σ (f_X11_numberHere a0 x1 x2 σ)
  unfold f_X11_numberHere
  refine z_ck (fun h0 => ?_)
  refine z_aload0 0 1 rfl rfl ?_
  refine z_getI 1 4 13 rfl rfl zf_X11_103 rfl h0 ?_
  refine z_if_eq 2 7 9 rfl rfl (by decide) ?_ ?_
  · refine z_aload0 5 10 rfl rfl ?_
    refine z_getI 6 13 6 rfl rfl zf_X11_93 rfl h0 ?_
    refine z_iconst 7 14 rfl rfl ci_3 ?_
    refine z_icmp_eq 8 17 29 rfl rfl (by decide) ?_ ?_
    · refine z_aload0 15 30 rfl rfl ?_
      refine z_getI 16 33 7 rfl rfl zf_X11_90 rfl h0 ?_
      refine z_iload1 17 34 rfl rfl ?_
      refine z_iload2 18 35 rfl rfl ?_
      refine z_cS3I 19 38 rfl rfl zl_X11_157 F_X11_in (zR_rm (by omega)) (c_X11_in X d (σ.1 a0 7) x1 x2 σ) rfl (Nat.le_of_ble_eq_true rfl) (fun r1 σ2 => ?_)
      refine z_if_ne 20 41 50 rfl rfl (by decide) ?_ ?_
      · refine z_aload0 21 42 rfl rfl ?_
        refine z_iconst 22 43 rfl rfl ci_4 ?_
        refine z_aload0 23 44 rfl rfl ?_
        refine z_getI 24 47 4 rfl rfl zf_X11_84 rfl h0 ?_
        refine z_cV2V 25 50 rfl rfl zl_X11_130 F_X11_wrong (zR_rm (by omega)) (c_X11_wrong X d a0 (4 : Int32) (σ2.1 a0 4) σ2) ⟨by decide, rfl, rfl⟩ h0 rfl (Nat.le_of_ble_eq_true rfl) (fun r3 σ4 => ?_)
        exact z_wk (zle_e (zle_e (zle_n zle_0))) (t_X11_numberHere_50 X d hd a0 h0  x1 σ4)
      · exact z_wk (zle_e (zle_e (zle_n zle_0))) (t_X11_numberHere_50 X d hd a0 h0  x1 σ2)
    · refine z_aload0 9 18 rfl rfl ?_
      refine z_iconst 10 19 rfl rfl ci_1 ?_
      refine z_aload0 11 20 rfl rfl ?_
      refine z_getI 12 23 4 rfl rfl zf_X11_84 rfl h0 ?_
      refine z_cV2V 13 26 rfl rfl zl_X11_130 F_X11_wrong (zR_rm (by omega)) (c_X11_wrong X d a0 (1 : Int32) (σ.1 a0 4) σ) ⟨by decide, rfl, rfl⟩ h0 rfl (Nat.le_of_ble_eq_true rfl) (fun r5 σ6 => ?_)
      refine z_goto 14 50 rfl (by decide) ?_
      exact z_wk (zle_e (zle_e (zle_n zle_0))) (t_X11_numberHere_50 X d hd a0 h0  x1 σ6)
  · refine z_iload1 3 8 rfl rfl ?_
    exact z_iret 4 rfl rfl
def f_X11_number (a0 : Nat) (x1 : Int32) (x2 : Int32) (σ : zS) : Option (Int32 × zS) := zck (WM.2 a0 = (11, 0)) (zbd (f_X11_numberHere a0 x1 x2 σ) (fun r1 σ2 => zlt r1 (fun v3 => zbd (f_X11_pass a0 σ2) (fun r4 σ5 => some (v3, σ5)))))
theorem c_X11_number (X : zX) (d : Nat) (hd : 3 ≤ d) (a0 : Nat) (x1 : Int32) (x2 : Int32) (σ : zS) : ∀ (r : Int32) (σ' : zS), f_X11_number a0 x1 x2 σ = some (r, σ') → zCN X WM d M_X11_number [.ref a0, .int x1, .int x2] σ (zeI r, σ') := by
  obtain ⟨d, rfl⟩ : ∃ e, d = e + 1 := ⟨d - 1, by omega⟩
  refine z_entry [.ref a0, .int x1, .int x2] (by decide +kernel) T_X11_number (Nat.le_of_ble_eq_true rfl) ?_
  show zK X WM (zrm (d + 1)) M_X11_number (zZ X WM zeI) 0 [some (.ref a0), some (.int x1), some (.int x2), none] [] σ (f_X11_number a0 x1 x2 σ)
  unfold f_X11_number
  refine z_ck (fun h0 => ?_)
  refine z_aload0 0 1 rfl rfl ?_
  refine z_iload1 1 2 rfl rfl ?_
  refine z_iload2 2 3 rfl rfl ?_
  refine z_cV2I 3 6 rfl rfl zl_X11_168 F_X11_numberHere (zR_rm (by omega)) (c_X11_numberHere X d (by omega) a0 x1 x2 σ) ⟨by decide, rfl, rfl⟩ h0 rfl (Nat.le_of_ble_eq_true rfl) (fun r1 σ2 => ?_)
  refine z_istore3 4 7 rfl rfl rfl (fun v3 => ?_)
  refine z_aload0 5 8 rfl rfl ?_
  refine z_cV0V 6 11 rfl rfl zl_X11_165 F_X11_pass (zR_rm (by omega)) (c_X11_pass X d (by omega) a0 σ2) ⟨by decide, rfl, rfl⟩ h0 rfl (Nat.le_of_ble_eq_true rfl) (fun r4 σ5 => ?_)
  refine z_iload3 7 12 rfl rfl ?_
  exact z_iret 8 rfl rfl
def f_X11_after (a0 : Nat) (x1 : Nat) (x2 : Int32) (x3 : Int32) (σ : zS) : Option (Int32 × zS) := zck (WM.2 a0 = (11, 0)) (zbd (f_X11_must a0 x1 σ) (fun r1 σ2 => zbd (f_X11_number a0 x2 x3 σ2) (fun r3 σ4 => some (r3, σ4))))
theorem c_X11_after (X : zX) (d : Nat) (hd : 11 ≤ d) (a0 : Nat) (x1 : Nat) (x2 : Int32) (x3 : Int32) (σ : zS) : ∀ (r : Int32) (σ' : zS), f_X11_after a0 x1 x2 x3 σ = some (r, σ') → zCN X WM d M_X11_after [.ref a0, .ref x1, .int x2, .int x3] σ (zeI r, σ') := by
  obtain ⟨d, rfl⟩ : ∃ e, d = e + 1 := ⟨d - 1, by omega⟩
  refine z_entry [.ref a0, .ref x1, .int x2, .int x3] (by decide +kernel) T_X11_after (Nat.le_of_ble_eq_true rfl) ?_
  show zK X WM (zrm (d + 1)) M_X11_after (zZ X WM zeI) 0 [some (.ref a0), some (.ref x1), some (.int x2), some (.int x3)] [] σ (f_X11_after a0 x1 x2 x3 σ)
  unfold f_X11_after
  refine z_ck (fun h0 => ?_)
  refine z_aload0 0 1 rfl rfl ?_
  refine z_aload1 1 2 rfl rfl ?_
  refine z_cV1V 2 5 rfl rfl zl_X11_171 F_X11_must (zR_rm (by omega)) (c_X11_must X d (by omega) a0 x1 σ) ⟨by decide, rfl, rfl⟩ h0 rfl (Nat.le_of_ble_eq_true rfl) (fun r1 σ2 => ?_)
  refine z_aload0 3 6 rfl rfl ?_
  refine z_iload2 4 7 rfl rfl ?_
  refine z_iload3 5 8 rfl rfl ?_
  refine z_cV2I 6 11 rfl rfl zl_X11_175 F_X11_number (zR_rm (by omega)) (c_X11_number X d (by omega) a0 x2 x3 σ2) ⟨by decide, rfl, rfl⟩ h0 rfl (Nat.le_of_ble_eq_true rfl) (fun r3 σ4 => ?_)
  exact z_iret 7 rfl rfl
def f_X11_letterLine_19 (a0 : Nat)  (σ : zS) : Option (Unit × zS) := zbr ((σ.1 a0 13) = 0) (zbd (f_X11_next a0 σ) (fun r1 σ2 => zbd (f_X11_after a0 (1000 + 9) (0 : Int32) (100 : Int32) σ2) (fun r3 σ4 => zck (zok 100 (WM.2 (σ2.2 a0 16)) (0 : Int32)) (zlt (zpi σ4 (σ2.2 a0 16) (0 : Int32).toNatClampNeg r3) (fun σ5 => zbr ((σ5.1 a0 13) = 0) (zck (zok 100 (WM.2 (σ5.2 a0 16)) (9 : Int32)) (zlt (zpi σ5 (σ5.2 a0 16) (9 : Int32).toNatClampNeg (1 : Int32)) (fun σ6 => some ((), σ6)))) (some ((), σ5))))))) (some ((), σ))
theorem t_X11_letterLine_19 (X : zX) (d : Nat) (hd : 12 ≤ d + 1) (a0 : Nat) (h0 : WM.2 a0 = (11, 0))  (σ : zS) : zK X WM (zrm (d + 1)) M_X11_letterLine (zZ X WM zeV) 19 [some (.ref a0)] [] σ (f_X11_letterLine_19 a0 σ) := by
  unfold f_X11_letterLine_19
  refine z_aload0 10 20 rfl rfl ?_
  refine z_getI 11 23 13 rfl rfl zf_X11_103 rfl h0 ?_
  refine z_if_eq 12 26 27 rfl rfl (by decide) ?_ ?_
  · refine z_aload0 14 28 rfl rfl ?_
    refine z_cV0V 15 31 rfl rfl zl_X11_124 F_X11_next (zR_rm (by omega)) (c_X11_next X d (by omega) a0 σ) ⟨by decide, rfl, rfl⟩ h0 rfl (Nat.le_of_ble_eq_true rfl) (fun r1 σ2 => ?_)
    refine z_aload0 16 32 rfl rfl ?_
    refine z_getR 17 35 16 rfl rfl zf_X11_23 rfl h0 ?_
    refine z_iconst 18 36 rfl rfl ci_0 ?_
    refine z_aload0 19 37 rfl rfl ?_
    refine z_ldcS 20 39 9 rfl rfl (tx := "wet") (List.mem_of_getElem? (i := 19) rfl) ?_
    refine z_iconst 21 40 rfl rfl ci_0 ?_
    refine z_bipush 22 42 rfl rfl cb_100 ?_
    refine z_cV3I 23 45 rfl rfl zl_X11_233 F_X11_after (zR_rm (by omega)) (c_X11_after X d (by omega) a0 (1000 + 9) (0 : Int32) (100 : Int32) σ2) ⟨by decide, rfl, rfl⟩ h0 rfl (Nat.le_of_ble_eq_true rfl) (fun r3 σ4 => ?_)
    refine z_iast 24 46 rfl rfl (fun σ5 => ?_)
    refine z_aload0 25 47 rfl rfl ?_
    refine z_getI 26 50 13 rfl rfl zf_X11_103 rfl h0 ?_
    refine z_if_ne 27 53 61 rfl rfl (by decide) ?_ ?_
    · refine z_aload0 28 54 rfl rfl ?_
      refine z_getR 29 57 16 rfl rfl zf_X11_23 rfl h0 ?_
      refine z_bipush 30 59 rfl rfl cb_9 ?_
      refine z_iconst 31 60 rfl rfl ci_1 ?_
      refine z_iast 32 61 rfl rfl (fun σ6 => ?_)
      exact z_vret 33 rfl rfl
    · exact z_vret 33 rfl rfl
  · exact z_vret 13 rfl rfl
def f_X11_letterLine (a0 : Nat) (σ : zS) : Option (Unit × zS) := zck (WM.2 a0 = (11, 0)) (zck (zok 100 (WM.2 (σ.2 a0 16)) (9 : Int32)) (zbr ((σ.1 (σ.2 a0 16) (9 : Int32).toNatClampNeg) ≤ 0) (f_X11_letterLine_19 a0 σ) (zbd (f_X11_wrong a0 (3 : Int32) (σ.1 a0 4) σ) (fun r7 σ8 => f_X11_letterLine_19 a0 σ8))))
theorem c_X11_letterLine (X : zX) (d : Nat) (hd : 12 ≤ d) (a0 : Nat) (σ : zS) : ∀ (r : Unit) (σ' : zS), f_X11_letterLine a0 σ = some (r, σ') → zCN X WM d M_X11_letterLine [.ref a0] σ (zeV r, σ') := by
  obtain ⟨d, rfl⟩ : ∃ e, d = e + 1 := ⟨d - 1, by omega⟩
  refine z_entry [.ref a0] (by decide +kernel) T_X11_letterLine (Nat.le_of_ble_eq_true rfl) ?_
  show zK X WM (zrm (d + 1)) M_X11_letterLine (zZ X WM zeV) 0 [some (.ref a0)] [] σ (f_X11_letterLine a0 σ)
  unfold f_X11_letterLine
  refine z_ck (fun h0 => ?_)
  refine z_aload0 0 1 rfl rfl ?_
  refine z_getR 1 4 16 rfl rfl zf_X11_23 rfl h0 ?_
  refine z_bipush 2 6 rfl rfl cb_9 ?_
  refine z_iald 3 7 rfl rfl ?_
  refine z_if_le 4 10 19 rfl rfl (by decide) ?_ ?_
  · exact t_X11_letterLine_19 X d hd a0 h0  σ
  · refine z_aload0 5 11 rfl rfl ?_
    refine z_iconst 6 12 rfl rfl ci_3 ?_
    refine z_aload0 7 13 rfl rfl ?_
    refine z_getI 8 16 4 rfl rfl zf_X11_84 rfl h0 ?_
    refine z_cV2V 9 19 rfl rfl zl_X11_130 F_X11_wrong (zR_rm (by omega)) (c_X11_wrong X d a0 (3 : Int32) (σ.1 a0 4) σ) ⟨by decide, rfl, rfl⟩ h0 rfl (Nat.le_of_ble_eq_true rfl) (fun r7 σ8 => ?_)
    exact t_X11_letterLine_19 X d hd a0 h0  σ8
def f_X11_begins_43 (a0 : Nat)  (σ : zS) : Option (Int32 × zS) := zbd (f_X11_pass a0 σ) (fun r1 σ2 => zck (zb (1 : Int32)) (some ((1 : Int32), σ2)))
theorem t_X11_begins_43 (X : zX) (d : Nat) (hd : 9 ≤ d + 1) (a0 : Nat) (h0 : WM.2 a0 = (11, 0))  (σ : zS) : zK X WM (zrm (d + 1)) M_X11_begins (zZ X WM zeI) 43 [some (.ref a0), none, none] [] σ (f_X11_begins_43 a0 σ) := by
  unfold f_X11_begins_43
  refine z_aload0 23 44 rfl rfl ?_
  refine z_cV0V 24 47 rfl rfl zl_X11_165 F_X11_pass (zR_rm (by omega)) (c_X11_pass X d (by omega) a0 σ) ⟨by decide, rfl, rfl⟩ h0 rfl (Nat.le_of_ble_eq_true rfl) (fun r1 σ2 => ?_)
  refine z_iconst 25 48 rfl rfl ci_1 ?_
  exact z_zret 26 rfl rfl
def f_X11_begins_23 (a0 : Nat)  (σ : zS) : Option (Int32 × zS) := zck (zok 100 (WM.2 (σ.2 a0 16)) (9 : Int32)) (zbr ((σ.1 (σ.2 a0 16) (9 : Int32).toNatClampNeg) = 0) (zbd (f_X11_wrong a0 (6 : Int32) (σ.1 a0 4) σ) (fun r3 σ4 => f_X11_begins_43 a0 σ4)) (f_X11_begins_43 a0 σ))
theorem t_X11_begins_23 (X : zX) (d : Nat) (hd : 9 ≤ d + 1) (a0 : Nat) (h0 : WM.2 a0 = (11, 0))  (σ : zS) : zK X WM (zrm (d + 1)) M_X11_begins (zZ X WM zeI) 23 [some (.ref a0), none, none] [] σ (f_X11_begins_23 a0 σ) := by
  unfold f_X11_begins_23
  refine z_aload0 13 24 rfl rfl ?_
  refine z_getR 14 27 16 rfl rfl zf_X11_23 rfl h0 ?_
  refine z_bipush 15 29 rfl rfl cb_9 ?_
  refine z_iald 16 30 rfl rfl ?_
  refine z_if_ne 17 33 43 rfl rfl (by decide) ?_ ?_
  · refine z_aload0 18 34 rfl rfl ?_
    refine z_bipush 19 36 rfl rfl cb_6 ?_
    refine z_aload0 20 37 rfl rfl ?_
    refine z_getI 21 40 4 rfl rfl zf_X11_84 rfl h0 ?_
    refine z_cV2V 22 43 rfl rfl zl_X11_130 F_X11_wrong (zR_rm (by omega)) (c_X11_wrong X d a0 (6 : Int32) (σ.1 a0 4) σ) ⟨by decide, rfl, rfl⟩ h0 rfl (Nat.le_of_ble_eq_true rfl) (fun r3 σ4 => ?_)
    exact t_X11_begins_43 X d hd a0 h0  σ4
  · exact t_X11_begins_43 X d hd a0 h0  σ
def f_X11_begins (a0 : Nat) (x1 : Nat) (x2 : Int32) (σ : zS) : Option (Int32 × zS) := zck (WM.2 a0 = (11, 0)) (zbd (f_X11_isWord a0 x1 σ) (fun r5 σ6 => zbr (r5 = 0) (zck (zb (0 : Int32)) (some ((0 : Int32), σ6))) (zbr (x2 = 0) (zbd (f_X11_wrong a0 (5 : Int32) (σ6.1 a0 4) σ6) (fun r7 σ8 => f_X11_begins_23 a0 σ8)) (f_X11_begins_23 a0 σ6))))
theorem c_X11_begins (X : zX) (d : Nat) (hd : 9 ≤ d) (a0 : Nat) (x1 : Nat) (x2 : Int32) (σ : zS) : ∀ (r : Int32) (σ' : zS), f_X11_begins a0 x1 x2 σ = some (r, σ') → zCN X WM d M_X11_begins [.ref a0, .ref x1, .int x2] σ (zeI r, σ') := by
  obtain ⟨d, rfl⟩ : ∃ e, d = e + 1 := ⟨d - 1, by omega⟩
  refine z_entry [.ref a0, .ref x1, .int x2] (by decide +kernel) T_X11_begins (Nat.le_of_ble_eq_true rfl) ?_
  show zK X WM (zrm (d + 1)) M_X11_begins (zZ X WM zeI) 0 [some (.ref a0), some (.ref x1), some (.int x2)] [] σ (f_X11_begins a0 x1 x2 σ)
  unfold f_X11_begins
  refine z_ck (fun h0 => ?_)
  refine z_aload0 0 1 rfl rfl ?_
  refine z_aload1 1 2 rfl rfl ?_
  refine z_cV1I 2 5 rfl rfl zl_X11_120 F_X11_isWord (zR_rm (by omega)) (c_X11_isWord X d (by omega) a0 x1 σ) ⟨by decide, rfl, rfl⟩ h0 rfl (Nat.le_of_ble_eq_true rfl) (fun r5 σ6 => ?_)
  refine z_if_ne 3 8 10 rfl rfl (by decide) ?_ ?_
  · refine z_iconst 4 9 rfl rfl ci_0 ?_
    exact z_zret 5 rfl rfl
  · refine z_iload2 6 11 rfl rfl ?_
    refine z_if_ne 7 14 23 rfl rfl (by decide) ?_ ?_
    · refine z_aload0 8 15 rfl rfl ?_
      refine z_iconst 9 16 rfl rfl ci_5 ?_
      refine z_aload0 10 17 rfl rfl ?_
      refine z_getI 11 20 4 rfl rfl zf_X11_84 rfl h0 ?_
      refine z_cV2V 12 23 rfl rfl zl_X11_130 F_X11_wrong (zR_rm (by omega)) (c_X11_wrong X d a0 (5 : Int32) (σ6.1 a0 4) σ6) ⟨by decide, rfl, rfl⟩ h0 rfl (Nat.le_of_ble_eq_true rfl) (fun r7 σ8 => ?_)
      exact z_wk (zle_e (zle_n (zle_n zle_0))) (t_X11_begins_23 X d hd a0 h0  σ8)
    · exact z_wk (zle_e (zle_n (zle_n zle_0))) (t_X11_begins_23 X d hd a0 h0  σ6)
def f_X11_placeLine_87 (a0 : Nat) (H46 : Int32 → Int32 → Int32 → zS → Option (Unit × zS)) (x1 : Int32) (x2 : Int32) (x3 : Int32) (σ : zS) : Option (Unit × zS) := zlt (x3 + (1 : Int32)) (fun v1 => H46 x1 x2 v1 σ)
theorem t_X11_placeLine_87 (X : zX) (d : Nat) (hd : 12 ≤ d + 1) (a0 : Nat) (h0 : WM.2 a0 = (11, 0)) (H46 : Int32 → Int32 → Int32 → zS → Option (Unit × zS)) (hH46 : ∀ (x1 : Int32) (x2 : Int32) (x3 : Int32) (σ : zS), zK X WM (zrm (d + 1)) M_X11_placeLine (zZ X WM zeV) 46 [some (.ref a0), some (.int x1), some (.int x2), some (.int x3)] [] σ (H46 x1 x2 x3 σ)) (x1 : Int32) (x2 : Int32) (x3 : Int32) (σ : zS) : zK X WM (zrm (d + 1)) M_X11_placeLine (zZ X WM zeV) 87 [some (.ref a0), some (.int x1), some (.int x2), some (.int x3)] [] σ (f_X11_placeLine_87 a0 H46 x1 x2 x3 σ) := by
  unfold f_X11_placeLine_87
  refine z_iinc3 53 90 rfl rfl ci_1 rfl (fun v1 => ?_)
  refine z_goto 54 46 rfl (by decide) ?_
  exact hH46 x1 x2 v1 σ
def f_X11_placeLine_46 (a0 : Nat) : Nat → Int32 → Int32 → Int32 → zS → Option (Unit × zS)
  | 0, _, _, _, _ => none
  | n + 1, x1, x2, x3, σ => zck (zok 100 (WM.2 (σ.2 a0 16)) (1 : Int32)) (zbr ((σ.1 (σ.2 a0 16) (1 : Int32).toNatClampNeg) ≤ x3) (zbd (f_X11_pass a0 σ) (fun r2 σ3 => zck (zok 100 (WM.2 (σ3.2 a0 16)) x1) (zlt (zpi σ3 (σ3.2 a0 16) x1.toNatClampNeg x2) (fun σ4 => zbd (f_X11_after a0 (1000 + 11) (1 : Int32) (9 : Int32) σ4) (fun r5 σ6 => zck (zok 100 (WM.2 (σ4.2 a0 16)) (x1 + (1 : Int32))) (zlt (zpi σ6 (σ4.2 a0 16) (x1 + (1 : Int32)).toNatClampNeg r5) (fun σ7 => zbr ((σ7.1 a0 13) = 0) (zck (zok 100 (WM.2 (σ7.2 a0 16)) (1 : Int32)) (zck (zok 100 (WM.2 (σ7.2 a0 16)) (1 : Int32)) (zlt (zpi σ7 (σ7.2 a0 16) (1 : Int32).toNatClampNeg ((σ7.1 (σ7.2 a0 16) (1 : Int32).toNatClampNeg) + (1 : Int32))) (fun σ8 => some ((), σ8))))) (some ((), σ7))))))))) (zbr ((σ.1 a0 13) = 0) (zck (zok 100 (WM.2 (σ.2 a0 16)) ((10 : Int32) + ((2 : Int32) * x3))) (zbr ((σ.1 (σ.2 a0 16) ((10 : Int32) + ((2 : Int32) * x3)).toNatClampNeg) = x2) (zbd (f_X11_wrong a0 (3 : Int32) (σ.1 a0 4) σ) (fun r9 σ10 => f_X11_placeLine_87 a0 (f_X11_placeLine_46 a0 n) x1 x2 x3 σ10)) (f_X11_placeLine_87 a0 (f_X11_placeLine_46 a0 n) x1 x2 x3 σ))) (f_X11_placeLine_87 a0 (f_X11_placeLine_46 a0 n) x1 x2 x3 σ)))
theorem t_X11_placeLine_46 (X : zX) (d : Nat) (hd : 12 ≤ d + 1) (a0 : Nat) (h0 : WM.2 a0 = (11, 0)) : ∀ (n : Nat) (x1 : Int32) (x2 : Int32) (x3 : Int32) (σ : zS), zK X WM (zrm (d + 1)) M_X11_placeLine (zZ X WM zeV) 46 [some (.ref a0), some (.int x1), some (.int x2), some (.int x3)] [] σ (f_X11_placeLine_46 a0 n x1 x2 x3 σ) := by
  intro n
  induction n with
  | zero => intro x1 x2 x3 σ; exact z_none
  | succ n ih =>
    intro x1 x2 x3 σ
    rw [f_X11_placeLine_46]
    refine z_iload3 29 47 rfl rfl ?_
    refine z_aload0 30 48 rfl rfl ?_
    refine z_getR 31 51 16 rfl rfl zf_X11_23 rfl h0 ?_
    refine z_iconst 32 52 rfl rfl ci_1 ?_
    refine z_iald 33 53 rfl rfl ?_
    refine z_icmp_ge 34 56 93 rfl rfl (by decide) ?_ ?_
    · refine z_aload0 55 94 rfl rfl ?_
      refine z_cV0V 56 97 rfl rfl zl_X11_165 F_X11_pass (zR_rm (by omega)) (c_X11_pass X d (by omega) a0 σ) ⟨by decide, rfl, rfl⟩ h0 rfl (Nat.le_of_ble_eq_true rfl) (fun r2 σ3 => ?_)
      refine z_aload0 57 98 rfl rfl ?_
      refine z_getR 58 101 16 rfl rfl zf_X11_23 rfl h0 ?_
      refine z_iload1 59 102 rfl rfl ?_
      refine z_iload2 60 103 rfl rfl ?_
      refine z_iast 61 104 rfl rfl (fun σ4 => ?_)
      refine z_aload0 62 105 rfl rfl ?_
      refine z_getR 63 108 16 rfl rfl zf_X11_23 rfl h0 ?_
      refine z_iload1 64 109 rfl rfl ?_
      refine z_iconst 65 110 rfl rfl ci_1 ?_
      refine z_iadd 66 111 rfl rfl ?_
      refine z_aload0 67 112 rfl rfl ?_
      refine z_ldcS 68 114 11 rfl rfl (tx := "room") (List.mem_of_getElem? (i := 29) rfl) ?_
      refine z_iconst 69 115 rfl rfl ci_1 ?_
      refine z_bipush 70 117 rfl rfl cb_9 ?_
      refine z_cV3I 71 120 rfl rfl zl_X11_233 F_X11_after (zR_rm (by omega)) (c_X11_after X d (by omega) a0 (1000 + 11) (1 : Int32) (9 : Int32) σ4) ⟨by decide, rfl, rfl⟩ h0 rfl (Nat.le_of_ble_eq_true rfl) (fun r5 σ6 => ?_)
      refine z_iast 72 121 rfl rfl (fun σ7 => ?_)
      refine z_aload0 73 122 rfl rfl ?_
      refine z_getI 74 125 13 rfl rfl zf_X11_103 rfl h0 ?_
      refine z_if_ne 75 128 138 rfl rfl (by decide) ?_ ?_
      · refine z_aload0 76 129 rfl rfl ?_
        refine z_getR 77 132 16 rfl rfl zf_X11_23 rfl h0 ?_
        refine z_iconst 78 133 rfl rfl ci_1 ?_
        refine z_dup2 79 134 rfl rfl rfl rfl ?_
        refine z_iald 80 135 rfl rfl ?_
        refine z_iconst 81 136 rfl rfl ci_1 ?_
        refine z_iadd 82 137 rfl rfl ?_
        refine z_iast 83 138 rfl rfl (fun σ8 => ?_)
        exact z_vret 84 rfl rfl
      · exact z_vret 84 rfl rfl
    · refine z_aload0 35 57 rfl rfl ?_
      refine z_getI 36 60 13 rfl rfl zf_X11_103 rfl h0 ?_
      refine z_if_ne 37 63 87 rfl rfl (by decide) ?_ ?_
      · refine z_aload0 38 64 rfl rfl ?_
        refine z_getR 39 67 16 rfl rfl zf_X11_23 rfl h0 ?_
        refine z_bipush 40 69 rfl rfl cb_10 ?_
        refine z_iconst 41 70 rfl rfl ci_2 ?_
        refine z_iload3 42 71 rfl rfl ?_
        refine z_imul 43 72 rfl rfl ?_
        refine z_iadd 44 73 rfl rfl ?_
        refine z_iald 45 74 rfl rfl ?_
        refine z_iload2 46 75 rfl rfl ?_
        refine z_icmp_ne 47 78 87 rfl rfl (by decide) ?_ ?_
        · refine z_aload0 48 79 rfl rfl ?_
          refine z_iconst 49 80 rfl rfl ci_3 ?_
          refine z_aload0 50 81 rfl rfl ?_
          refine z_getI 51 84 4 rfl rfl zf_X11_84 rfl h0 ?_
          refine z_cV2V 52 87 rfl rfl zl_X11_130 F_X11_wrong (zR_rm (by omega)) (c_X11_wrong X d a0 (3 : Int32) (σ.1 a0 4) σ) ⟨by decide, rfl, rfl⟩ h0 rfl (Nat.le_of_ble_eq_true rfl) (fun r9 σ10 => ?_)
          exact t_X11_placeLine_87 X d hd a0 h0 (f_X11_placeLine_46 a0 n) ih x1 x2 x3 σ10
        · exact t_X11_placeLine_87 X d hd a0 h0 (f_X11_placeLine_46 a0 n) ih x1 x2 x3 σ
      · exact t_X11_placeLine_87 X d hd a0 h0 (f_X11_placeLine_46 a0 n) ih x1 x2 x3 σ
def f_X11_placeLine (a0 : Nat) (σ : zS) : Option (Unit × zS) := zck (WM.2 a0 = (11, 0)) (zbr ((σ.1 a0 13) = 0) (zck (zok 100 (WM.2 (σ.2 a0 16)) (1 : Int32)) (zlt ((10 : Int32) + ((2 : Int32) * (σ.1 (σ.2 a0 16) (1 : Int32).toNatClampNeg))) (fun v11 => zck (zok 100 (WM.2 (σ.2 a0 16)) (1 : Int32)) (zbd (f_X11_newName a0 (σ.1 (σ.2 a0 16) (1 : Int32).toNatClampNeg) σ) (fun r12 σ13 => zbd (f_X11_must a0 (1000 + 10) σ13) (fun r14 σ15 => zbd (f_X11_numberHere a0 (0 : Int32) (99 : Int32) σ15) (fun r16 σ17 => zlt r16 (fun v18 => zlt (0 : Int32) (fun v19 => f_X11_placeLine_46 a0 FU v11 v18 v19 σ17))))))))) (some ((), σ)))
theorem c_X11_placeLine (X : zX) (d : Nat) (hd : 12 ≤ d) (a0 : Nat) (σ : zS) : ∀ (r : Unit) (σ' : zS), f_X11_placeLine a0 σ = some (r, σ') → zCN X WM d M_X11_placeLine [.ref a0] σ (zeV r, σ') := by
  obtain ⟨d, rfl⟩ : ∃ e, d = e + 1 := ⟨d - 1, by omega⟩
  refine z_entry [.ref a0] (by decide +kernel) T_X11_placeLine (Nat.le_of_ble_eq_true rfl) ?_
  show zK X WM (zrm (d + 1)) M_X11_placeLine (zZ X WM zeV) 0 [some (.ref a0), none, none, none] [] σ (f_X11_placeLine a0 σ)
  unfold f_X11_placeLine
  refine z_ck (fun h0 => ?_)
  refine z_aload0 0 1 rfl rfl ?_
  refine z_getI 1 4 13 rfl rfl zf_X11_103 rfl h0 ?_
  refine z_if_eq 2 7 8 rfl rfl (by decide) ?_ ?_
  · refine z_bipush 4 10 rfl rfl cb_10 ?_
    refine z_iconst 5 11 rfl rfl ci_2 ?_
    refine z_aload0 6 12 rfl rfl ?_
    refine z_getR 7 15 16 rfl rfl zf_X11_23 rfl h0 ?_
    refine z_iconst 8 16 rfl rfl ci_1 ?_
    refine z_iald 9 17 rfl rfl ?_
    refine z_imul 10 18 rfl rfl ?_
    refine z_iadd 11 19 rfl rfl ?_
    refine z_istore1 12 20 rfl rfl rfl (fun v11 => ?_)
    refine z_aload0 13 21 rfl rfl ?_
    refine z_aload0 14 22 rfl rfl ?_
    refine z_getR 15 25 16 rfl rfl zf_X11_23 rfl h0 ?_
    refine z_iconst 16 26 rfl rfl ci_1 ?_
    refine z_iald 17 27 rfl rfl ?_
    refine z_cV1V 18 30 rfl rfl zl_X11_237 F_X11_newName (zR_rm (by omega)) (c_X11_newName X d (by omega) a0 (σ.1 (σ.2 a0 16) (1 : Int32).toNatClampNeg) σ) ⟨by decide, rfl, rfl⟩ h0 rfl (Nat.le_of_ble_eq_true rfl) (fun r12 σ13 => ?_)
    refine z_aload0 19 31 rfl rfl ?_
    refine z_ldcS 20 33 10 rfl rfl (tx := "rank") (List.mem_of_getElem? (i := 28) rfl) ?_
    refine z_cV1V 21 36 rfl rfl zl_X11_171 F_X11_must (zR_rm (by omega)) (c_X11_must X d (by omega) a0 (1000 + 10) σ13) ⟨by decide, rfl, rfl⟩ h0 rfl (Nat.le_of_ble_eq_true rfl) (fun r14 σ15 => ?_)
    refine z_aload0 22 37 rfl rfl ?_
    refine z_iconst 23 38 rfl rfl ci_0 ?_
    refine z_bipush 24 40 rfl rfl cb_99 ?_
    refine z_cV2I 25 43 rfl rfl zl_X11_168 F_X11_numberHere (zR_rm (by omega)) (c_X11_numberHere X d (by omega) a0 (0 : Int32) (99 : Int32) σ15) ⟨by decide, rfl, rfl⟩ h0 rfl (Nat.le_of_ble_eq_true rfl) (fun r16 σ17 => ?_)
    refine z_istore2 26 44 rfl rfl rfl (fun v18 => ?_)
    refine z_iconst 27 45 rfl rfl ci_0 ?_
    refine z_istore3 28 46 rfl rfl rfl (fun v19 => ?_)
    exact t_X11_placeLine_46 X d hd a0 h0  FU v11 v18 v19 σ17
  · exact z_vret 3 rfl rfl
def f_X11_overLine_151 (a0 : Nat) (x1 : Int32) (x2 : Int32) (x3 : Int32) (σ : zS) : Option (Unit × zS) := zbd (f_X11_pass a0 σ) (fun r1 σ2 => zbr ((σ2.1 a0 13) = 0) (zck (zok 100 (WM.2 (σ2.2 a0 16)) x1) (zlt (zpi σ2 (σ2.2 a0 16) x1.toNatClampNeg x2) (fun σ3 => zck (zok 100 (WM.2 (σ3.2 a0 16)) (x1 + (1 : Int32))) (zlt (zpi σ3 (σ3.2 a0 16) (x1 + (1 : Int32)).toNatClampNeg x3) (fun σ4 => zck (zok 100 (WM.2 (σ4.2 a0 16)) (2 : Int32)) (zck (zok 100 (WM.2 (σ4.2 a0 16)) (2 : Int32)) (zlt (zpi σ4 (σ4.2 a0 16) (2 : Int32).toNatClampNeg ((σ4.1 (σ4.2 a0 16) (2 : Int32).toNatClampNeg) + (1 : Int32))) (fun σ5 => some ((), σ5))))))))) (some ((), σ2)))
theorem t_X11_overLine_151 (X : zX) (d : Nat) (hd : 12 ≤ d + 1) (a0 : Nat) (h0 : WM.2 a0 = (11, 0)) (x1 : Int32) (x2 : Int32) (x3 : Int32) (σ : zS) : zK X WM (zrm (d + 1)) M_X11_overLine (zZ X WM zeV) 151 [some (.ref a0), some (.int x1), some (.int x2), some (.int x3), none, none, none, none] [] σ (f_X11_overLine_151 a0 x1 x2 x3 σ) := by
  unfold f_X11_overLine_151
  refine z_aload0 86 152 rfl rfl ?_
  refine z_cV0V 87 155 rfl rfl zl_X11_165 F_X11_pass (zR_rm (by omega)) (c_X11_pass X d (by omega) a0 σ) ⟨by decide, rfl, rfl⟩ h0 rfl (Nat.le_of_ble_eq_true rfl) (fun r1 σ2 => ?_)
  refine z_aload0 88 156 rfl rfl ?_
  refine z_getI 89 159 13 rfl rfl zf_X11_103 rfl h0 ?_
  refine z_if_eq 90 162 163 rfl rfl (by decide) ?_ ?_
  · refine z_aload0 92 164 rfl rfl ?_
    refine z_getR 93 167 16 rfl rfl zf_X11_23 rfl h0 ?_
    refine z_iload1 94 168 rfl rfl ?_
    refine z_iload2 95 169 rfl rfl ?_
    refine z_iast 96 170 rfl rfl (fun σ3 => ?_)
    refine z_aload0 97 171 rfl rfl ?_
    refine z_getR 98 174 16 rfl rfl zf_X11_23 rfl h0 ?_
    refine z_iload1 99 175 rfl rfl ?_
    refine z_iconst 100 176 rfl rfl ci_1 ?_
    refine z_iadd 101 177 rfl rfl ?_
    refine z_iload3 102 178 rfl rfl ?_
    refine z_iast 103 179 rfl rfl (fun σ4 => ?_)
    refine z_aload0 104 180 rfl rfl ?_
    refine z_getR 105 183 16 rfl rfl zf_X11_23 rfl h0 ?_
    refine z_iconst 106 184 rfl rfl ci_2 ?_
    refine z_dup2 107 185 rfl rfl rfl rfl ?_
    refine z_iald 108 186 rfl rfl ?_
    refine z_iconst 109 187 rfl rfl ci_1 ?_
    refine z_iadd 110 188 rfl rfl ?_
    refine z_iast 111 189 rfl rfl (fun σ5 => ?_)
    exact z_vret 112 rfl rfl
  · exact z_vret 91 rfl rfl
def f_X11_overLine_122 (a0 : Nat) (H47 : Int32 → Int32 → Int32 → Int32 → Int32 → zS → Option (Unit × zS)) (x1 : Int32) (x2 : Int32) (x3 : Int32) (x5 : Int32) (s0 : Int32) (σ : zS) : Option (Unit × zS) := zlt s0 (fun v6 => zlt (x5 + (1 : Int32)) (fun v7 => H47 x1 x2 x3 v6 v7 σ))
theorem t_X11_overLine_122 (X : zX) (d : Nat) (hd : 12 ≤ d + 1) (a0 : Nat) (h0 : WM.2 a0 = (11, 0)) (H47 : Int32 → Int32 → Int32 → Int32 → Int32 → zS → Option (Unit × zS)) (hH47 : ∀ (x1 : Int32) (x2 : Int32) (x3 : Int32) (x4 : Int32) (x5 : Int32) (σ : zS), zK X WM (zrm (d + 1)) M_X11_overLine (zZ X WM zeV) 47 [some (.ref a0), some (.int x1), some (.int x2), some (.int x3), some (.int x4), some (.int x5), none, none] [] σ (H47 x1 x2 x3 x4 x5 σ)) (x1 : Int32) (x2 : Int32) (x3 : Int32) (x5 : Int32) (s0 : Int32) (σ : zS) : zK X WM (zrm (d + 1)) M_X11_overLine (zZ X WM zeV) 122 [some (.ref a0), some (.int x1), some (.int x2), some (.int x3), none, some (.int x5), none, none] [.int s0] σ (f_X11_overLine_122 a0 H47 x1 x2 x3 x5 s0 σ) := by
  unfold f_X11_overLine_122
  refine z_istore4 73 124 rfl rfl rfl (fun v6 => ?_)
  refine z_iinc5 74 127 rfl rfl ci_1 rfl (fun v7 => ?_)
  refine z_goto 75 47 rfl (by decide) ?_
  exact hH47 x1 x2 x3 v6 v7 σ
def f_X11_overLine_121 (a0 : Nat) (H47 : Int32 → Int32 → Int32 → Int32 → Int32 → zS → Option (Unit × zS)) (x1 : Int32) (x2 : Int32) (x3 : Int32) (x5 : Int32) (σ : zS) : Option (Unit × zS) := f_X11_overLine_122 a0 H47 x1 x2 x3 x5 (0 : Int32) σ
theorem t_X11_overLine_121 (X : zX) (d : Nat) (hd : 12 ≤ d + 1) (a0 : Nat) (h0 : WM.2 a0 = (11, 0)) (H47 : Int32 → Int32 → Int32 → Int32 → Int32 → zS → Option (Unit × zS)) (hH47 : ∀ (x1 : Int32) (x2 : Int32) (x3 : Int32) (x4 : Int32) (x5 : Int32) (σ : zS), zK X WM (zrm (d + 1)) M_X11_overLine (zZ X WM zeV) 47 [some (.ref a0), some (.int x1), some (.int x2), some (.int x3), some (.int x4), some (.int x5), none, none] [] σ (H47 x1 x2 x3 x4 x5 σ)) (x1 : Int32) (x2 : Int32) (x3 : Int32) (x5 : Int32) (σ : zS) : zK X WM (zrm (d + 1)) M_X11_overLine (zZ X WM zeV) 121 [some (.ref a0), some (.int x1), some (.int x2), some (.int x3), none, some (.int x5), none, none] [] σ (f_X11_overLine_121 a0 H47 x1 x2 x3 x5 σ) := by
  unfold f_X11_overLine_121
  refine z_iconst 72 122 rfl rfl ci_0 ?_
  exact t_X11_overLine_122 X d hd a0 h0 H47 hH47 x1 x2 x3 x5 (0 : Int32) σ
def f_X11_overLine_117 (a0 : Nat) (H47 : Int32 → Int32 → Int32 → Int32 → Int32 → zS → Option (Unit × zS)) (x1 : Int32) (x2 : Int32) (x3 : Int32) (x5 : Int32) (σ : zS) : Option (Unit × zS) := f_X11_overLine_122 a0 H47 x1 x2 x3 x5 (1 : Int32) σ
theorem t_X11_overLine_117 (X : zX) (d : Nat) (hd : 12 ≤ d + 1) (a0 : Nat) (h0 : WM.2 a0 = (11, 0)) (H47 : Int32 → Int32 → Int32 → Int32 → Int32 → zS → Option (Unit × zS)) (hH47 : ∀ (x1 : Int32) (x2 : Int32) (x3 : Int32) (x4 : Int32) (x5 : Int32) (σ : zS), zK X WM (zrm (d + 1)) M_X11_overLine (zZ X WM zeV) 47 [some (.ref a0), some (.int x1), some (.int x2), some (.int x3), some (.int x4), some (.int x5), none, none] [] σ (H47 x1 x2 x3 x4 x5 σ)) (x1 : Int32) (x2 : Int32) (x3 : Int32) (x5 : Int32) (σ : zS) : zK X WM (zrm (d + 1)) M_X11_overLine (zZ X WM zeV) 117 [some (.ref a0), some (.int x1), some (.int x2), some (.int x3), none, some (.int x5), none, none] [] σ (f_X11_overLine_117 a0 H47 x1 x2 x3 x5 σ) := by
  unfold f_X11_overLine_117
  refine z_iconst 70 118 rfl rfl ci_1 ?_
  refine z_goto 71 122 rfl (by decide) ?_
  exact t_X11_overLine_122 X d hd a0 h0 H47 hH47 x1 x2 x3 x5 (1 : Int32) σ
def f_X11_overLine_105 (a0 : Nat) (H47 : Int32 → Int32 → Int32 → Int32 → Int32 → zS → Option (Unit × zS)) (x1 : Int32) (x2 : Int32) (x3 : Int32) (x5 : Int32) (x6 : Int32) (x7 : Int32) (σ : zS) : Option (Unit × zS) := zbr (x6 = x3) (zbr (x7 = x2) (f_X11_overLine_117 a0 H47 x1 x2 x3 x5 σ) (f_X11_overLine_121 a0 H47 x1 x2 x3 x5 σ)) (f_X11_overLine_121 a0 H47 x1 x2 x3 x5 σ)
theorem t_X11_overLine_105 (X : zX) (d : Nat) (hd : 12 ≤ d + 1) (a0 : Nat) (h0 : WM.2 a0 = (11, 0)) (H47 : Int32 → Int32 → Int32 → Int32 → Int32 → zS → Option (Unit × zS)) (hH47 : ∀ (x1 : Int32) (x2 : Int32) (x3 : Int32) (x4 : Int32) (x5 : Int32) (σ : zS), zK X WM (zrm (d + 1)) M_X11_overLine (zZ X WM zeV) 47 [some (.ref a0), some (.int x1), some (.int x2), some (.int x3), some (.int x4), some (.int x5), none, none] [] σ (H47 x1 x2 x3 x4 x5 σ)) (x1 : Int32) (x2 : Int32) (x3 : Int32) (x5 : Int32) (x6 : Int32) (x7 : Int32) (σ : zS) : zK X WM (zrm (d + 1)) M_X11_overLine (zZ X WM zeV) 105 [some (.ref a0), some (.int x1), some (.int x2), some (.int x3), none, some (.int x5), some (.int x6), some (.int x7)] [] σ (f_X11_overLine_105 a0 H47 x1 x2 x3 x5 x6 x7 σ) := by
  unfold f_X11_overLine_105
  refine z_iload6 64 107 rfl rfl ?_
  refine z_iload3 65 108 rfl rfl ?_
  refine z_icmp_ne 66 111 121 rfl rfl (by decide) ?_ ?_
  · refine z_iload7 67 113 rfl rfl ?_
    refine z_iload2 68 114 rfl rfl ?_
    refine z_icmp_ne 69 117 121 rfl rfl (by decide) ?_ ?_
    · exact z_wk (zle_e (zle_e (zle_e (zle_e (zle_e (zle_e (zle_n (zle_n zle_0)))))))) (t_X11_overLine_117 X d hd a0 h0 H47 hH47 x1 x2 x3 x5 σ)
    · exact z_wk (zle_e (zle_e (zle_e (zle_e (zle_e (zle_e (zle_n (zle_n zle_0)))))))) (t_X11_overLine_121 X d hd a0 h0 H47 hH47 x1 x2 x3 x5 σ)
  · exact z_wk (zle_e (zle_e (zle_e (zle_e (zle_e (zle_e (zle_n (zle_n zle_0)))))))) (t_X11_overLine_121 X d hd a0 h0 H47 hH47 x1 x2 x3 x5 σ)
def f_X11_overLine_47 (a0 : Nat) : Nat → Int32 → Int32 → Int32 → Int32 → Int32 → zS → Option (Unit × zS)
  | 0, _, _, _, _, _, _ => none
  | n + 1, x1, x2, x3, x4, x5, σ => zck (zok 100 (WM.2 (σ.2 a0 16)) (2 : Int32)) (zbr ((σ.1 (σ.2 a0 16) (2 : Int32).toNatClampNeg) ≤ x5) (zbr ((σ.1 a0 13) = 0) (zbr (x4 = 0) (f_X11_overLine_151 a0 x1 x2 x3 σ) (zbd (f_X11_wrong a0 (3 : Int32) (σ.1 a0 4) σ) (fun r8 σ9 => f_X11_overLine_151 a0 x1 x2 x3 σ9))) (f_X11_overLine_151 a0 x1 x2 x3 σ)) (zck (zok 100 (WM.2 (σ.2 a0 16)) ((22 : Int32) + ((2 : Int32) * x5))) (zlt (σ.1 (σ.2 a0 16) ((22 : Int32) + ((2 : Int32) * x5)).toNatClampNeg) (fun v10 => zck (zok 100 (WM.2 (σ.2 a0 16)) (((22 : Int32) + ((2 : Int32) * x5)) + (1 : Int32))) (zlt (σ.1 (σ.2 a0 16) (((22 : Int32) + ((2 : Int32) * x5)) + (1 : Int32)).toNatClampNeg) (fun v11 => zbr (x4 = 0) (zbr (v10 = x2) (zbr (v11 = x3) (f_X11_overLine_117 a0 (f_X11_overLine_47 a0 n) x1 x2 x3 x5 σ) (f_X11_overLine_105 a0 (f_X11_overLine_47 a0 n) x1 x2 x3 x5 v10 v11 σ)) (f_X11_overLine_105 a0 (f_X11_overLine_47 a0 n) x1 x2 x3 x5 v10 v11 σ)) (f_X11_overLine_117 a0 (f_X11_overLine_47 a0 n) x1 x2 x3 x5 σ)))))))
theorem t_X11_overLine_47 (X : zX) (d : Nat) (hd : 12 ≤ d + 1) (a0 : Nat) (h0 : WM.2 a0 = (11, 0)) : ∀ (n : Nat) (x1 : Int32) (x2 : Int32) (x3 : Int32) (x4 : Int32) (x5 : Int32) (σ : zS), zK X WM (zrm (d + 1)) M_X11_overLine (zZ X WM zeV) 47 [some (.ref a0), some (.int x1), some (.int x2), some (.int x3), some (.int x4), some (.int x5), none, none] [] σ (f_X11_overLine_47 a0 n x1 x2 x3 x4 x5 σ) := by
  intro n
  induction n with
  | zero => intro x1 x2 x3 x4 x5 σ; exact z_none
  | succ n ih =>
    intro x1 x2 x3 x4 x5 σ
    rw [f_X11_overLine_47]
    refine z_iload5 30 49 rfl rfl ?_
    refine z_aload0 31 50 rfl rfl ?_
    refine z_getR 32 53 16 rfl rfl zf_X11_23 rfl h0 ?_
    refine z_iconst 33 54 rfl rfl ci_2 ?_
    refine z_iald 34 55 rfl rfl ?_
    refine z_icmp_ge 35 58 130 rfl rfl (by decide) ?_ ?_
    · refine z_aload0 76 131 rfl rfl ?_
      refine z_getI 77 134 13 rfl rfl zf_X11_103 rfl h0 ?_
      refine z_if_ne 78 137 151 rfl rfl (by decide) ?_ ?_
      · refine z_iload4 79 139 rfl rfl ?_
        refine z_if_eq 80 142 151 rfl rfl (by decide) ?_ ?_
        · exact z_wk (zle_e (zle_e (zle_e (zle_e (zle_n (zle_n (zle_e (zle_e zle_0)))))))) (t_X11_overLine_151 X d hd a0 h0  x1 x2 x3 σ)
        · refine z_aload0 81 143 rfl rfl ?_
          refine z_iconst 82 144 rfl rfl ci_3 ?_
          refine z_aload0 83 145 rfl rfl ?_
          refine z_getI 84 148 4 rfl rfl zf_X11_84 rfl h0 ?_
          refine z_cV2V 85 151 rfl rfl zl_X11_130 F_X11_wrong (zR_rm (by omega)) (c_X11_wrong X d a0 (3 : Int32) (σ.1 a0 4) σ) ⟨by decide, rfl, rfl⟩ h0 rfl (Nat.le_of_ble_eq_true rfl) (fun r8 σ9 => ?_)
          exact z_wk (zle_e (zle_e (zle_e (zle_e (zle_n (zle_n (zle_e (zle_e zle_0)))))))) (t_X11_overLine_151 X d hd a0 h0  x1 x2 x3 σ9)
      · exact z_wk (zle_e (zle_e (zle_e (zle_e (zle_n (zle_n (zle_e (zle_e zle_0)))))))) (t_X11_overLine_151 X d hd a0 h0  x1 x2 x3 σ)
    · refine z_aload0 36 59 rfl rfl ?_
      refine z_getR 37 62 16 rfl rfl zf_X11_23 rfl h0 ?_
      refine z_bipush 38 64 rfl rfl cb_22 ?_
      refine z_iconst 39 65 rfl rfl ci_2 ?_
      refine z_iload5 40 67 rfl rfl ?_
      refine z_imul 41 68 rfl rfl ?_
      refine z_iadd 42 69 rfl rfl ?_
      refine z_iald 43 70 rfl rfl ?_
      refine z_istore6 44 72 rfl rfl rfl (fun v10 => ?_)
      refine z_aload0 45 73 rfl rfl ?_
      refine z_getR 46 76 16 rfl rfl zf_X11_23 rfl h0 ?_
      refine z_bipush 47 78 rfl rfl cb_22 ?_
      refine z_iconst 48 79 rfl rfl ci_2 ?_
      refine z_iload5 49 81 rfl rfl ?_
      refine z_imul 50 82 rfl rfl ?_
      refine z_iadd 51 83 rfl rfl ?_
      refine z_iconst 52 84 rfl rfl ci_1 ?_
      refine z_iadd 53 85 rfl rfl ?_
      refine z_iald 54 86 rfl rfl ?_
      refine z_istore7 55 88 rfl rfl rfl (fun v11 => ?_)
      refine z_iload4 56 90 rfl rfl ?_
      refine z_if_ne 57 93 117 rfl rfl (by decide) ?_ ?_
      · refine z_iload6 58 95 rfl rfl ?_
        refine z_iload2 59 96 rfl rfl ?_
        refine z_icmp_ne 60 99 105 rfl rfl (by decide) ?_ ?_
        · refine z_iload7 61 101 rfl rfl ?_
          refine z_iload3 62 102 rfl rfl ?_
          refine z_icmp_eq 63 105 117 rfl rfl (by decide) ?_ ?_
          · exact z_wk (zle_e (zle_e (zle_e (zle_e (zle_n (zle_e (zle_n (zle_n zle_0)))))))) (t_X11_overLine_117 X d hd a0 h0 (f_X11_overLine_47 a0 n) ih x1 x2 x3 x5 σ)
          · exact z_wk (zle_e (zle_e (zle_e (zle_e (zle_n (zle_e (zle_e (zle_e zle_0)))))))) (t_X11_overLine_105 X d hd a0 h0 (f_X11_overLine_47 a0 n) ih x1 x2 x3 x5 v10 v11 σ)
        · exact z_wk (zle_e (zle_e (zle_e (zle_e (zle_n (zle_e (zle_e (zle_e zle_0)))))))) (t_X11_overLine_105 X d hd a0 h0 (f_X11_overLine_47 a0 n) ih x1 x2 x3 x5 v10 v11 σ)
      · exact z_wk (zle_e (zle_e (zle_e (zle_e (zle_n (zle_e (zle_n (zle_n zle_0)))))))) (t_X11_overLine_117 X d hd a0 h0 (f_X11_overLine_47 a0 n) ih x1 x2 x3 x5 σ)
def f_X11_overLine_42 (a0 : Nat) (x1 : Int32) (x2 : Int32) (x3 : Int32) (s0 : Int32) (σ : zS) : Option (Unit × zS) := zlt s0 (fun v12 => zlt (0 : Int32) (fun v13 => f_X11_overLine_47 a0 FU x1 x2 x3 v12 v13 σ))
theorem t_X11_overLine_42 (X : zX) (d : Nat) (hd : 12 ≤ d + 1) (a0 : Nat) (h0 : WM.2 a0 = (11, 0)) (x1 : Int32) (x2 : Int32) (x3 : Int32) (s0 : Int32) (σ : zS) : zK X WM (zrm (d + 1)) M_X11_overLine (zZ X WM zeV) 42 [some (.ref a0), some (.int x1), some (.int x2), some (.int x3), none, none, none, none] [.int s0] σ (f_X11_overLine_42 a0 x1 x2 x3 s0 σ) := by
  unfold f_X11_overLine_42
  refine z_istore4 27 44 rfl rfl rfl (fun v12 => ?_)
  refine z_iconst 28 45 rfl rfl ci_0 ?_
  refine z_istore5 29 47 rfl rfl rfl (fun v13 => ?_)
  exact t_X11_overLine_47 X d hd a0 h0  FU x1 x2 x3 v12 v13 σ
def f_X11_overLine (a0 : Nat) (σ : zS) : Option (Unit × zS) := zck (WM.2 a0 = (11, 0)) (zbr ((σ.1 a0 13) = 0) (zck (zok 100 (WM.2 (σ.2 a0 16)) (2 : Int32)) (zlt ((22 : Int32) + ((2 : Int32) * (σ.1 (σ.2 a0 16) (2 : Int32).toNatClampNeg))) (fun v14 => zbd (f_X11_placePassed a0 σ) (fun r15 σ16 => zlt r15 (fun v17 => zbd (f_X11_named a0 (0 : Int32) (5 : Int32) σ16) (fun r18 σ19 => zlt r18 (fun v20 => zbr (v17 = v20) (f_X11_overLine_42 a0 v14 v17 v20 (1 : Int32) σ19) (f_X11_overLine_42 a0 v14 v17 v20 (0 : Int32) σ19)))))))) (some ((), σ)))
theorem c_X11_overLine (X : zX) (d : Nat) (hd : 12 ≤ d) (a0 : Nat) (σ : zS) : ∀ (r : Unit) (σ' : zS), f_X11_overLine a0 σ = some (r, σ') → zCN X WM d M_X11_overLine [.ref a0] σ (zeV r, σ') := by
  obtain ⟨d, rfl⟩ : ∃ e, d = e + 1 := ⟨d - 1, by omega⟩
  refine z_entry [.ref a0] (by decide +kernel) T_X11_overLine (Nat.le_of_ble_eq_true rfl) ?_
  show zK X WM (zrm (d + 1)) M_X11_overLine (zZ X WM zeV) 0 [some (.ref a0), none, none, none, none, none, none, none] [] σ (f_X11_overLine a0 σ)
  unfold f_X11_overLine
  refine z_ck (fun h0 => ?_)
  refine z_aload0 0 1 rfl rfl ?_
  refine z_getI 1 4 13 rfl rfl zf_X11_103 rfl h0 ?_
  refine z_if_eq 2 7 8 rfl rfl (by decide) ?_ ?_
  · refine z_bipush 4 10 rfl rfl cb_22 ?_
    refine z_iconst 5 11 rfl rfl ci_2 ?_
    refine z_aload0 6 12 rfl rfl ?_
    refine z_getR 7 15 16 rfl rfl zf_X11_23 rfl h0 ?_
    refine z_iconst 8 16 rfl rfl ci_2 ?_
    refine z_iald 9 17 rfl rfl ?_
    refine z_imul 10 18 rfl rfl ?_
    refine z_iadd 11 19 rfl rfl ?_
    refine z_istore1 12 20 rfl rfl rfl (fun v14 => ?_)
    refine z_aload0 13 21 rfl rfl ?_
    refine z_cV0I 14 24 rfl rfl zl_X11_245 F_X11_placePassed (zR_rm (by omega)) (c_X11_placePassed X d (by omega) a0 σ) ⟨by decide, rfl, rfl⟩ h0 rfl (Nat.le_of_ble_eq_true rfl) (fun r15 σ16 => ?_)
    refine z_istore2 15 25 rfl rfl rfl (fun v17 => ?_)
    refine z_aload0 16 26 rfl rfl ?_
    refine z_iconst 17 27 rfl rfl ci_0 ?_
    refine z_iconst 18 28 rfl rfl ci_5 ?_
    refine z_cV2I 19 31 rfl rfl zl_X11_161 F_X11_named (zR_rm (by omega)) (c_X11_named X d (by omega) a0 (0 : Int32) (5 : Int32) σ16) ⟨by decide, rfl, rfl⟩ h0 rfl (Nat.le_of_ble_eq_true rfl) (fun r18 σ19 => ?_)
    refine z_istore3 20 32 rfl rfl rfl (fun v20 => ?_)
    refine z_iload2 21 33 rfl rfl ?_
    refine z_iload3 22 34 rfl rfl ?_
    refine z_icmp_ne 23 37 41 rfl rfl (by decide) ?_ ?_
    · refine z_iconst 24 38 rfl rfl ci_1 ?_
      refine z_goto 25 42 rfl (by decide) ?_
      exact t_X11_overLine_42 X d hd a0 h0  v14 v17 v20 (1 : Int32) σ19
    · refine z_iconst 26 42 rfl rfl ci_0 ?_
      exact t_X11_overLine_42 X d hd a0 h0  v14 v17 v20 (0 : Int32) σ19
  · exact z_vret 3 rfl rfl
def f_X11_handLine (a0 : Nat) (σ : zS) : Option (Unit × zS) := zck (WM.2 a0 = (11, 0)) (zbr ((σ.1 a0 13) = 0) (zck (zok 100 (WM.2 (σ.2 a0 16)) (3 : Int32)) (zbd (f_X11_newName a0 ((6 : Int32) + (σ.1 (σ.2 a0 16) (3 : Int32).toNatClampNeg)) σ) (fun r1 σ2 => zck (zok 100 (WM.2 (σ2.2 a0 16)) (3 : Int32)) (zbd (f_X11_after a0 (1000 + 12) (0 : Int32) (99 : Int32) σ2) (fun r3 σ4 => zck (zok 100 (WM.2 (σ2.2 a0 16)) ((34 : Int32) + (σ2.1 (σ2.2 a0 16) (3 : Int32).toNatClampNeg))) (zlt (zpi σ4 (σ2.2 a0 16) ((34 : Int32) + (σ2.1 (σ2.2 a0 16) (3 : Int32).toNatClampNeg)).toNatClampNeg r3) (fun σ5 => zbr ((σ5.1 a0 13) = 0) (zck (zok 100 (WM.2 (σ5.2 a0 16)) (3 : Int32)) (zck (zok 100 (WM.2 (σ5.2 a0 16)) (3 : Int32)) (zlt (zpi σ5 (σ5.2 a0 16) (3 : Int32).toNatClampNeg ((σ5.1 (σ5.2 a0 16) (3 : Int32).toNatClampNeg) + (1 : Int32))) (fun σ6 => some ((), σ6))))) (some ((), σ5))))))))) (some ((), σ)))
theorem c_X11_handLine (X : zX) (d : Nat) (hd : 12 ≤ d) (a0 : Nat) (σ : zS) : ∀ (r : Unit) (σ' : zS), f_X11_handLine a0 σ = some (r, σ') → zCN X WM d M_X11_handLine [.ref a0] σ (zeV r, σ') := by
  obtain ⟨d, rfl⟩ : ∃ e, d = e + 1 := ⟨d - 1, by omega⟩
  refine z_entry [.ref a0] (by decide +kernel) T_X11_handLine (Nat.le_of_ble_eq_true rfl) ?_
  show zK X WM (zrm (d + 1)) M_X11_handLine (zZ X WM zeV) 0 [some (.ref a0)] [] σ (f_X11_handLine a0 σ)
  unfold f_X11_handLine
  refine z_ck (fun h0 => ?_)
  refine z_aload0 0 1 rfl rfl ?_
  refine z_getI 1 4 13 rfl rfl zf_X11_103 rfl h0 ?_
  refine z_if_eq 2 7 8 rfl rfl (by decide) ?_ ?_
  · refine z_aload0 4 9 rfl rfl ?_
    refine z_bipush 5 11 rfl rfl cb_6 ?_
    refine z_aload0 6 12 rfl rfl ?_
    refine z_getR 7 15 16 rfl rfl zf_X11_23 rfl h0 ?_
    refine z_iconst 8 16 rfl rfl ci_3 ?_
    refine z_iald 9 17 rfl rfl ?_
    refine z_iadd 10 18 rfl rfl ?_
    refine z_cV1V 11 21 rfl rfl zl_X11_237 F_X11_newName (zR_rm (by omega)) (c_X11_newName X d (by omega) a0 ((6 : Int32) + (σ.1 (σ.2 a0 16) (3 : Int32).toNatClampNeg)) σ) ⟨by decide, rfl, rfl⟩ h0 rfl (Nat.le_of_ble_eq_true rfl) (fun r1 σ2 => ?_)
    refine z_aload0 12 22 rfl rfl ?_
    refine z_getR 13 25 16 rfl rfl zf_X11_23 rfl h0 ?_
    refine z_bipush 14 27 rfl rfl cb_34 ?_
    refine z_aload0 15 28 rfl rfl ?_
    refine z_getR 16 31 16 rfl rfl zf_X11_23 rfl h0 ?_
    refine z_iconst 17 32 rfl rfl ci_3 ?_
    refine z_iald 18 33 rfl rfl ?_
    refine z_iadd 19 34 rfl rfl ?_
    refine z_aload0 20 35 rfl rfl ?_
    refine z_ldcS 21 37 12 rfl rfl (tx := "purse") (List.mem_of_getElem? (i := 30) rfl) ?_
    refine z_iconst 22 38 rfl rfl ci_0 ?_
    refine z_bipush 23 40 rfl rfl cb_99 ?_
    refine z_cV3I 24 43 rfl rfl zl_X11_233 F_X11_after (zR_rm (by omega)) (c_X11_after X d (by omega) a0 (1000 + 12) (0 : Int32) (99 : Int32) σ2) ⟨by decide, rfl, rfl⟩ h0 rfl (Nat.le_of_ble_eq_true rfl) (fun r3 σ4 => ?_)
    refine z_iast 25 44 rfl rfl (fun σ5 => ?_)
    refine z_aload0 26 45 rfl rfl ?_
    refine z_getI 27 48 13 rfl rfl zf_X11_103 rfl h0 ?_
    refine z_if_ne 28 51 61 rfl rfl (by decide) ?_ ?_
    · refine z_aload0 29 52 rfl rfl ?_
      refine z_getR 30 55 16 rfl rfl zf_X11_23 rfl h0 ?_
      refine z_iconst 31 56 rfl rfl ci_3 ?_
      refine z_dup2 32 57 rfl rfl rfl rfl ?_
      refine z_iald 33 58 rfl rfl ?_
      refine z_iconst 34 59 rfl rfl ci_1 ?_
      refine z_iadd 35 60 rfl rfl ?_
      refine z_iast 36 61 rfl rfl (fun σ6 => ?_)
      exact z_vret 37 rfl rfl
    · exact z_vret 37 rfl rfl
  · exact z_vret 3 rfl rfl
def f_X11_matterLine (a0 : Nat) (σ : zS) : Option (Unit × zS) := zck (WM.2 a0 = (11, 0)) (zbr ((σ.1 a0 13) = 0) (zck (zok 100 (WM.2 (σ.2 a0 16)) (4 : Int32)) (zbd (f_X11_newName a0 ((10 : Int32) + (σ.1 (σ.2 a0 16) (4 : Int32).toNatClampNeg)) σ) (fun r1 σ2 => zbr ((σ2.1 a0 13) = 0) (zck (zok 100 (WM.2 (σ2.2 a0 16)) (4 : Int32)) (zck (zok 100 (WM.2 (σ2.2 a0 16)) (4 : Int32)) (zlt (zpi σ2 (σ2.2 a0 16) (4 : Int32).toNatClampNeg ((σ2.1 (σ2.2 a0 16) (4 : Int32).toNatClampNeg) + (1 : Int32))) (fun σ3 => some ((), σ3))))) (some ((), σ2))))) (some ((), σ)))
theorem c_X11_matterLine (X : zX) (d : Nat) (hd : 11 ≤ d) (a0 : Nat) (σ : zS) : ∀ (r : Unit) (σ' : zS), f_X11_matterLine a0 σ = some (r, σ') → zCN X WM d M_X11_matterLine [.ref a0] σ (zeV r, σ') := by
  obtain ⟨d, rfl⟩ : ∃ e, d = e + 1 := ⟨d - 1, by omega⟩
  refine z_entry [.ref a0] (by decide +kernel) T_X11_matterLine (Nat.le_of_ble_eq_true rfl) ?_
  show zK X WM (zrm (d + 1)) M_X11_matterLine (zZ X WM zeV) 0 [some (.ref a0)] [] σ (f_X11_matterLine a0 σ)
  unfold f_X11_matterLine
  refine z_ck (fun h0 => ?_)
  refine z_aload0 0 1 rfl rfl ?_
  refine z_getI 1 4 13 rfl rfl zf_X11_103 rfl h0 ?_
  refine z_if_eq 2 7 8 rfl rfl (by decide) ?_ ?_
  · refine z_aload0 4 9 rfl rfl ?_
    refine z_bipush 5 11 rfl rfl cb_10 ?_
    refine z_aload0 6 12 rfl rfl ?_
    refine z_getR 7 15 16 rfl rfl zf_X11_23 rfl h0 ?_
    refine z_iconst 8 16 rfl rfl ci_4 ?_
    refine z_iald 9 17 rfl rfl ?_
    refine z_iadd 10 18 rfl rfl ?_
    refine z_cV1V 11 21 rfl rfl zl_X11_237 F_X11_newName (zR_rm (by omega)) (c_X11_newName X d (by omega) a0 ((10 : Int32) + (σ.1 (σ.2 a0 16) (4 : Int32).toNatClampNeg)) σ) ⟨by decide, rfl, rfl⟩ h0 rfl (Nat.le_of_ble_eq_true rfl) (fun r1 σ2 => ?_)
    refine z_aload0 12 22 rfl rfl ?_
    refine z_getI 13 25 13 rfl rfl zf_X11_103 rfl h0 ?_
    refine z_if_ne 14 28 38 rfl rfl (by decide) ?_ ?_
    · refine z_aload0 15 29 rfl rfl ?_
      refine z_getR 16 32 16 rfl rfl zf_X11_23 rfl h0 ?_
      refine z_iconst 17 33 rfl rfl ci_4 ?_
      refine z_dup2 18 34 rfl rfl rfl rfl ?_
      refine z_iald 19 35 rfl rfl ?_
      refine z_iconst 20 36 rfl rfl ci_1 ?_
      refine z_iadd 21 37 rfl rfl ?_
      refine z_iast 22 38 rfl rfl (fun σ3 => ?_)
      exact z_vret 23 rfl rfl
    · exact z_vret 23 rfl rfl
  · exact z_vret 3 rfl rfl
def f_X11_say (a0 : Nat) (σ : zS) : Option (Int32 × zS) := zck (WM.2 a0 = (11, 0)) (zbd (f_X11_takesWord a0 (1000 + 13) σ) (fun r1 σ2 => zbr (r1 = 0) (zbd (f_X11_must a0 (1000 + 14) σ2) (fun r3 σ4 => some ((0 : Int32), σ4))) (some ((1 : Int32), σ2))))
theorem c_X11_say (X : zX) (d : Nat) (hd : 11 ≤ d) (a0 : Nat) (σ : zS) : ∀ (r : Int32) (σ' : zS), f_X11_say a0 σ = some (r, σ') → zCN X WM d M_X11_say [.ref a0] σ (zeI r, σ') := by
  obtain ⟨d, rfl⟩ : ∃ e, d = e + 1 := ⟨d - 1, by omega⟩
  refine z_entry [.ref a0] (by decide +kernel) T_X11_say (Nat.le_of_ble_eq_true rfl) ?_
  show zK X WM (zrm (d + 1)) M_X11_say (zZ X WM zeI) 0 [some (.ref a0)] [] σ (f_X11_say a0 σ)
  unfold f_X11_say
  refine z_ck (fun h0 => ?_)
  refine z_aload0 0 1 rfl rfl ?_
  refine z_ldcS 1 3 13 rfl rfl (tx := "do") (List.mem_of_getElem? (i := 31) rfl) ?_
  refine z_cV1I 2 6 rfl rfl zl_X11_127 F_X11_takesWord (zR_rm (by omega)) (c_X11_takesWord X d (by omega) a0 (1000 + 13) σ) ⟨by decide, rfl, rfl⟩ h0 rfl (Nat.le_of_ble_eq_true rfl) (fun r1 σ2 => ?_)
  refine z_if_eq 3 9 11 rfl rfl (by decide) ?_ ?_
  · refine z_aload0 6 12 rfl rfl ?_
    refine z_ldcS 7 14 14 rfl rfl (tx := "not") (List.mem_of_getElem? (i := 32) rfl) ?_
    refine z_cV1V 8 17 rfl rfl zl_X11_171 F_X11_must (zR_rm (by omega)) (c_X11_must X d (by omega) a0 (1000 + 14) σ2) ⟨by decide, rfl, rfl⟩ h0 rfl (Nat.le_of_ble_eq_true rfl) (fun r3 σ4 => ?_)
    refine z_iconst 9 18 rfl rfl ci_0 ?_
    exact z_iret 10 rfl rfl
  · refine z_iconst 4 10 rfl rfl ci_1 ?_
    exact z_iret 5 rfl rfl
def f_X11_roomOn_52 (a0 : Nat) (H15 : Nat → Int32 → Int32 → Int32 → zS → Option (Int32 × zS)) (x2 : Nat) (x3 : Int32) (x5 : Int32) (s0 : Int32) (s1 : Int32) (σ : zS) : Option (Int32 × zS) := zlt (s0 - s1) (fun v1 => zlt (x5 + (1 : Int32)) (fun v2 => H15 x2 x3 v1 v2 σ))
theorem t_X11_roomOn_52 (X : zX) (d : Nat) (a0 : Nat) (h0 : WM.2 a0 = (11, 0)) (H15 : Nat → Int32 → Int32 → Int32 → zS → Option (Int32 × zS)) (hH15 : ∀ (x2 : Nat) (x3 : Int32) (x4 : Int32) (x5 : Int32) (σ : zS), zK X WM (zrm d) M_X11_roomOn (zZ X WM zeI) 15 [some (.ref a0), none, some (.ref x2), some (.int x3), some (.int x4), some (.int x5)] [] σ (H15 x2 x3 x4 x5 σ)) (x2 : Nat) (x3 : Int32) (x5 : Int32) (s0 : Int32) (s1 : Int32) (σ : zS) : zK X WM (zrm d) M_X11_roomOn (zZ X WM zeI) 52 [some (.ref a0), none, some (.ref x2), some (.int x3), none, some (.int x5)] [.int s1, .int s0] σ (f_X11_roomOn_52 a0 H15 x2 x3 x5 s0 s1 σ) := by
  unfold f_X11_roomOn_52
  refine z_isub 36 53 rfl rfl ?_
  refine z_istore4 37 55 rfl rfl rfl (fun v1 => ?_)
  refine z_iinc5 38 58 rfl rfl ci_1 rfl (fun v2 => ?_)
  refine z_goto 39 15 rfl (by decide) ?_
  exact hH15 x2 x3 v1 v2 σ
def f_X11_roomOn_15 (a0 : Nat) : Nat → Nat → Int32 → Int32 → Int32 → zS → Option (Int32 × zS)
  | 0, _, _, _, _, _ => none
  | n + 1, x2, x3, x4, x5, σ => zck (zok 100 (WM.2 x2) (48 : Int32)) (zbr ((σ.1 x2 (48 : Int32).toNatClampNeg) ≤ x5) (some (x4, σ)) (zck (zok 100 (WM.2 x2) (((6 : Int32) * x5) + (1 : Int32))) (zbr ((σ.1 x2 (((6 : Int32) * x5) + (1 : Int32)).toNatClampNeg) = x3) (zck (zok 100 (WM.2 x2) (((6 : Int32) * x5) + (4 : Int32))) (f_X11_roomOn_52 a0 (f_X11_roomOn_15 a0 n) x2 x3 x5 x4 (σ.1 x2 (((6 : Int32) * x5) + (4 : Int32)).toNatClampNeg) σ)) (f_X11_roomOn_52 a0 (f_X11_roomOn_15 a0 n) x2 x3 x5 x4 (0 : Int32) σ))))
theorem t_X11_roomOn_15 (X : zX) (d : Nat) (a0 : Nat) (h0 : WM.2 a0 = (11, 0)) : ∀ (n : Nat) (x2 : Nat) (x3 : Int32) (x4 : Int32) (x5 : Int32) (σ : zS), zK X WM (zrm d) M_X11_roomOn (zZ X WM zeI) 15 [some (.ref a0), none, some (.ref x2), some (.int x3), some (.int x4), some (.int x5)] [] σ (f_X11_roomOn_15 a0 n x2 x3 x4 x5 σ) := by
  intro n
  induction n with
  | zero => intro x2 x3 x4 x5 σ; exact z_none
  | succ n ih =>
    intro x2 x3 x4 x5 σ
    rw [f_X11_roomOn_15]
    refine z_iload5 12 17 rfl rfl ?_
    refine z_aload2 13 18 rfl rfl ?_
    refine z_bipush 14 20 rfl rfl cb_48 ?_
    refine z_iald 15 21 rfl rfl ?_
    refine z_icmp_ge 16 24 61 rfl rfl (by decide) ?_ ?_
    · refine z_iload4 40 63 rfl rfl ?_
      exact z_iret 41 rfl rfl
    · refine z_iload4 17 26 rfl rfl ?_
      refine z_aload2 18 27 rfl rfl ?_
      refine z_bipush 19 29 rfl rfl cb_6 ?_
      refine z_iload5 20 31 rfl rfl ?_
      refine z_imul 21 32 rfl rfl ?_
      refine z_iconst 22 33 rfl rfl ci_1 ?_
      refine z_iadd 23 34 rfl rfl ?_
      refine z_iald 24 35 rfl rfl ?_
      refine z_iload3 25 36 rfl rfl ?_
      refine z_icmp_ne 26 39 51 rfl rfl (by decide) ?_ ?_
      · refine z_aload2 27 40 rfl rfl ?_
        refine z_bipush 28 42 rfl rfl cb_6 ?_
        refine z_iload5 29 44 rfl rfl ?_
        refine z_imul 30 45 rfl rfl ?_
        refine z_iconst 31 46 rfl rfl ci_4 ?_
        refine z_iadd 32 47 rfl rfl ?_
        refine z_iald 33 48 rfl rfl ?_
        refine z_goto 34 52 rfl (by decide) ?_
        exact z_wk (zle_e (zle_e (zle_e (zle_e (zle_n (zle_e zle_0)))))) (t_X11_roomOn_52 X d a0 h0 (f_X11_roomOn_15 a0 n) ih x2 x3 x5 x4 (σ.1 x2 (((6 : Int32) * x5) + (4 : Int32)).toNatClampNeg) σ)
      · refine z_iconst 35 52 rfl rfl ci_0 ?_
        exact z_wk (zle_e (zle_e (zle_e (zle_e (zle_n (zle_e zle_0)))))) (t_X11_roomOn_52 X d a0 h0 (f_X11_roomOn_15 a0 n) ih x2 x3 x5 x4 (0 : Int32) σ)
def f_X11_roomOn (a0 : Nat) (x1 : Nat) (x2 : Nat) (x3 : Int32) (σ : zS) : Option (Int32 × zS) := zck (WM.2 a0 = (11, 0)) (zck (zok 100 (WM.2 x1) (((10 : Int32) + ((2 : Int32) * x3)) + (1 : Int32))) (zlt (σ.1 x1 (((10 : Int32) + ((2 : Int32) * x3)) + (1 : Int32)).toNatClampNeg) (fun v3 => zlt (0 : Int32) (fun v4 => f_X11_roomOn_15 a0 FU x2 x3 v3 v4 σ))))
theorem c_X11_roomOn (X : zX) (d : Nat) (a0 : Nat) (x1 : Nat) (x2 : Nat) (x3 : Int32) (σ : zS) : ∀ (r : Int32) (σ' : zS), f_X11_roomOn a0 x1 x2 x3 σ = some (r, σ') → zCN X WM d M_X11_roomOn [.ref a0, .ref x1, .ref x2, .int x3] σ (zeI r, σ') := by
  refine z_entry [.ref a0, .ref x1, .ref x2, .int x3] (by decide +kernel) T_X11_roomOn (Nat.le_of_ble_eq_true rfl) ?_
  show zK X WM (zrm d) M_X11_roomOn (zZ X WM zeI) 0 [some (.ref a0), some (.ref x1), some (.ref x2), some (.int x3), none, none] [] σ (f_X11_roomOn a0 x1 x2 x3 σ)
  unfold f_X11_roomOn
  refine z_ck (fun h0 => ?_)
  refine z_aload1 0 1 rfl rfl ?_
  refine z_bipush 1 3 rfl rfl cb_10 ?_
  refine z_iconst 2 4 rfl rfl ci_2 ?_
  refine z_iload3 3 5 rfl rfl ?_
  refine z_imul 4 6 rfl rfl ?_
  refine z_iadd 5 7 rfl rfl ?_
  refine z_iconst 6 8 rfl rfl ci_1 ?_
  refine z_iadd 7 9 rfl rfl ?_
  refine z_iald 8 10 rfl rfl ?_
  refine z_istore4 9 12 rfl rfl rfl (fun v3 => ?_)
  refine z_iconst 10 13 rfl rfl ci_0 ?_
  refine z_istore5 11 15 rfl rfl rfl (fun v4 => ?_)
  exact z_wk (zle_e (zle_n (zle_e (zle_e (zle_e (zle_e zle_0)))))) (t_X11_roomOn_15 X d a0 h0  FU x2 x3 v3 v4 σ)
def f_X11_lay (x0 : Nat) (x1 : Int32) (x2 : Int32) (x3 : Int32) (x4 : Int32) (x5 : Int32) (σ : zS) : Option (Unit × zS) := zck (zok 100 (WM.2 x0) (48 : Int32)) (zlt ((6 : Int32) * (σ.1 x0 (48 : Int32).toNatClampNeg)) (fun v1 => zck (zok 100 (WM.2 x0) (v1 + (0 : Int32))) (zlt (zpi σ x0 (v1 + (0 : Int32)).toNatClampNeg x1) (fun σ2 => zck (zok 100 (WM.2 x0) (v1 + (1 : Int32))) (zlt (zpi σ2 x0 (v1 + (1 : Int32)).toNatClampNeg x2) (fun σ3 => zck (zok 100 (WM.2 x0) (v1 + (2 : Int32))) (zlt (zpi σ3 x0 (v1 + (2 : Int32)).toNatClampNeg x3) (fun σ4 => zck (zok 100 (WM.2 x0) (v1 + (3 : Int32))) (zlt (zpi σ4 x0 (v1 + (3 : Int32)).toNatClampNeg x4) (fun σ5 => zck (zok 100 (WM.2 x0) (v1 + (4 : Int32))) (zlt (zpi σ5 x0 (v1 + (4 : Int32)).toNatClampNeg x5) (fun σ6 => zck (zok 100 (WM.2 x0) (v1 + (5 : Int32))) (zlt (zpi σ6 x0 (v1 + (5 : Int32)).toNatClampNeg (0 : Int32)) (fun σ7 => zck (zok 100 (WM.2 x0) (48 : Int32)) (zck (zok 100 (WM.2 x0) (48 : Int32)) (zlt (zpi σ7 x0 (48 : Int32).toNatClampNeg ((σ7.1 x0 (48 : Int32).toNatClampNeg) + (1 : Int32))) (fun σ8 => some ((), σ8))))))))))))))))))
theorem c_X11_lay (X : zX) (d : Nat) (x0 : Nat) (x1 : Int32) (x2 : Int32) (x3 : Int32) (x4 : Int32) (x5 : Int32) (σ : zS) : ∀ (r : Unit) (σ' : zS), f_X11_lay x0 x1 x2 x3 x4 x5 σ = some (r, σ') → zCN X WM d M_X11_lay [.ref x0, .int x1, .int x2, .int x3, .int x4, .int x5] σ (zeV r, σ') := by
  refine z_entry [.ref x0, .int x1, .int x2, .int x3, .int x4, .int x5] (by decide +kernel) T_X11_lay (Nat.le_of_ble_eq_true rfl) ?_
  show zK X WM (zrm d) M_X11_lay (zZ X WM zeV) 0 [some (.ref x0), some (.int x1), some (.int x2), some (.int x3), some (.int x4), some (.int x5), none] [] σ (f_X11_lay x0 x1 x2 x3 x4 x5 σ)
  unfold f_X11_lay
  refine z_bipush 0 2 rfl rfl cb_6 ?_
  refine z_aload0 1 3 rfl rfl ?_
  refine z_bipush 2 5 rfl rfl cb_48 ?_
  refine z_iald 3 6 rfl rfl ?_
  refine z_imul 4 7 rfl rfl ?_
  refine z_istore6 5 9 rfl rfl rfl (fun v1 => ?_)
  refine z_aload0 6 10 rfl rfl ?_
  refine z_iload6 7 12 rfl rfl ?_
  refine z_iconst 8 13 rfl rfl ci_0 ?_
  refine z_iadd 9 14 rfl rfl ?_
  refine z_iload1 10 15 rfl rfl ?_
  refine z_iast 11 16 rfl rfl (fun σ2 => ?_)
  refine z_aload0 12 17 rfl rfl ?_
  refine z_iload6 13 19 rfl rfl ?_
  refine z_iconst 14 20 rfl rfl ci_1 ?_
  refine z_iadd 15 21 rfl rfl ?_
  refine z_iload2 16 22 rfl rfl ?_
  refine z_iast 17 23 rfl rfl (fun σ3 => ?_)
  refine z_aload0 18 24 rfl rfl ?_
  refine z_iload6 19 26 rfl rfl ?_
  refine z_iconst 20 27 rfl rfl ci_2 ?_
  refine z_iadd 21 28 rfl rfl ?_
  refine z_iload3 22 29 rfl rfl ?_
  refine z_iast 23 30 rfl rfl (fun σ4 => ?_)
  refine z_aload0 24 31 rfl rfl ?_
  refine z_iload6 25 33 rfl rfl ?_
  refine z_iconst 26 34 rfl rfl ci_3 ?_
  refine z_iadd 27 35 rfl rfl ?_
  refine z_iload4 28 37 rfl rfl ?_
  refine z_iast 29 38 rfl rfl (fun σ5 => ?_)
  refine z_aload0 30 39 rfl rfl ?_
  refine z_iload6 31 41 rfl rfl ?_
  refine z_iconst 32 42 rfl rfl ci_4 ?_
  refine z_iadd 33 43 rfl rfl ?_
  refine z_iload5 34 45 rfl rfl ?_
  refine z_iast 35 46 rfl rfl (fun σ6 => ?_)
  refine z_aload0 36 47 rfl rfl ?_
  refine z_iload6 37 49 rfl rfl ?_
  refine z_iconst 38 50 rfl rfl ci_5 ?_
  refine z_iadd 39 51 rfl rfl ?_
  refine z_iconst 40 52 rfl rfl ci_0 ?_
  refine z_iast 41 53 rfl rfl (fun σ7 => ?_)
  refine z_aload0 42 54 rfl rfl ?_
  refine z_bipush 43 56 rfl rfl cb_48 ?_
  refine z_dup2 44 57 rfl rfl rfl rfl ?_
  refine z_iald 45 58 rfl rfl ?_
  refine z_iconst 46 59 rfl rfl ci_1 ?_
  refine z_iadd 47 60 rfl rfl ?_
  refine z_iast 48 61 rfl rfl (fun σ8 => ?_)
  exact z_vret 49 rfl rfl
def f_X11_wroteLine_88 (a0 : Nat) (x1 : Int32) (x2 : Int32) (x3 : Int32) (x4 : Int32) (x5 : Int32) (σ : zS) : Option (Unit × zS) := zbd (f_X11_pass a0 σ) (fun r1 σ2 => zbr ((σ2.1 a0 13) = 0) (zbd (f_X11_lay (σ2.2 a0 18) x1 x2 x3 x4 x5 σ2) (fun r3 σ4 => zck (zok 100 (WM.2 (σ4.2 a0 16)) (5 : Int32)) (zck (zok 100 (WM.2 (σ4.2 a0 16)) (5 : Int32)) (zlt (zpi σ4 (σ4.2 a0 16) (5 : Int32).toNatClampNeg ((σ4.1 (σ4.2 a0 16) (5 : Int32).toNatClampNeg) + (1 : Int32))) (fun σ5 => some ((), σ5)))))) (some ((), σ2)))
theorem t_X11_wroteLine_88 (X : zX) (d : Nat) (hd : 12 ≤ d + 1) (a0 : Nat) (h0 : WM.2 a0 = (11, 0)) (x1 : Int32) (x2 : Int32) (x3 : Int32) (x4 : Int32) (x5 : Int32) (σ : zS) : zK X WM (zrm (d + 1)) M_X11_wroteLine (zZ X WM zeV) 88 [some (.ref a0), some (.int x1), some (.int x2), some (.int x3), some (.int x4), some (.int x5)] [] σ (f_X11_wroteLine_88 a0 x1 x2 x3 x4 x5 σ) := by
  unfold f_X11_wroteLine_88
  refine z_aload0 45 89 rfl rfl ?_
  refine z_cV0V 46 92 rfl rfl zl_X11_165 F_X11_pass (zR_rm (by omega)) (c_X11_pass X d (by omega) a0 σ) ⟨by decide, rfl, rfl⟩ h0 rfl (Nat.le_of_ble_eq_true rfl) (fun r1 σ2 => ?_)
  refine z_aload0 47 93 rfl rfl ?_
  refine z_getI 48 96 13 rfl rfl zf_X11_103 rfl h0 ?_
  refine z_if_eq 49 99 100 rfl rfl (by decide) ?_ ?_
  · refine z_aload0 51 101 rfl rfl ?_
    refine z_getR 52 104 18 rfl rfl zf_X11_29 rfl h0 ?_
    refine z_iload1 53 105 rfl rfl ?_
    refine z_iload2 54 106 rfl rfl ?_
    refine z_iload3 55 107 rfl rfl ?_
    refine z_iload4 56 109 rfl rfl ?_
    refine z_iload5 57 111 rfl rfl ?_
    refine z_cS6V 58 114 rfl rfl zl_X11_266 F_X11_lay (zR_rm (by omega)) (c_X11_lay X d (σ2.2 a0 18) x1 x2 x3 x4 x5 σ2) rfl (Nat.le_of_ble_eq_true rfl) (fun r3 σ4 => ?_)
    refine z_aload0 59 115 rfl rfl ?_
    refine z_getR 60 118 16 rfl rfl zf_X11_23 rfl h0 ?_
    refine z_iconst 61 119 rfl rfl ci_5 ?_
    refine z_dup2 62 120 rfl rfl rfl rfl ?_
    refine z_iald 63 121 rfl rfl ?_
    refine z_iconst 64 122 rfl rfl ci_1 ?_
    refine z_iadd 65 123 rfl rfl ?_
    refine z_iast 66 124 rfl rfl (fun σ5 => ?_)
    exact z_vret 67 rfl rfl
  · exact z_vret 50 rfl rfl
def f_X11_wroteLine (a0 : Nat) (σ : zS) : Option (Unit × zS) := zck (WM.2 a0 = (11, 0)) (zbr ((σ.1 a0 13) = 0) (zbd (f_X11_handPassed a0 σ) (fun r6 σ7 => zlt r6 (fun v8 => zbd (f_X11_placePassed a0 σ7) (fun r9 σ10 => zlt r9 (fun v11 => zbd (f_X11_named a0 (10 : Int32) (13 : Int32) σ10) (fun r12 σ13 => zlt r12 (fun v14 => zbd (f_X11_pass a0 σ13) (fun r15 σ16 => zbd (f_X11_say a0 σ16) (fun r17 σ18 => zlt r17 (fun v19 => zbd (f_X11_must a0 (1000 + 15) σ18) (fun r20 σ21 => zbd (f_X11_numberHere a0 (1 : Int32) (9 : Int32) σ21) (fun r22 σ23 => zlt r22 (fun v24 => zbr ((σ23.1 a0 13) = 0) (zbd (f_X11_roomOn a0 (σ23.2 a0 16) (σ23.2 a0 18) v11 σ23) (fun r25 σ26 => zbr (v24 ≤ r25) (f_X11_wroteLine_88 a0 v8 v11 v14 v19 v24 σ26) (zbd (f_X11_wrong a0 (7 : Int32) (σ26.1 a0 4) σ26) (fun r27 σ28 => f_X11_wroteLine_88 a0 v8 v11 v14 v19 v24 σ28)))) (f_X11_wroteLine_88 a0 v8 v11 v14 v19 v24 σ23)))))))))))))) (some ((), σ)))
theorem c_X11_wroteLine (X : zX) (d : Nat) (hd : 12 ≤ d) (a0 : Nat) (σ : zS) : ∀ (r : Unit) (σ' : zS), f_X11_wroteLine a0 σ = some (r, σ') → zCN X WM d M_X11_wroteLine [.ref a0] σ (zeV r, σ') := by
  obtain ⟨d, rfl⟩ : ∃ e, d = e + 1 := ⟨d - 1, by omega⟩
  refine z_entry [.ref a0] (by decide +kernel) T_X11_wroteLine (Nat.le_of_ble_eq_true rfl) ?_
  show zK X WM (zrm (d + 1)) M_X11_wroteLine (zZ X WM zeV) 0 [some (.ref a0), none, none, none, none, none] [] σ (f_X11_wroteLine a0 σ)
  unfold f_X11_wroteLine
  refine z_ck (fun h0 => ?_)
  refine z_aload0 0 1 rfl rfl ?_
  refine z_getI 1 4 13 rfl rfl zf_X11_103 rfl h0 ?_
  refine z_if_eq 2 7 8 rfl rfl (by decide) ?_ ?_
  · refine z_aload0 4 9 rfl rfl ?_
    refine z_cV0I 5 12 rfl rfl zl_X11_254 F_X11_handPassed (zR_rm (by omega)) (c_X11_handPassed X d (by omega) a0 σ) ⟨by decide, rfl, rfl⟩ h0 rfl (Nat.le_of_ble_eq_true rfl) (fun r6 σ7 => ?_)
    refine z_istore1 6 13 rfl rfl rfl (fun v8 => ?_)
    refine z_aload0 7 14 rfl rfl ?_
    refine z_cV0I 8 17 rfl rfl zl_X11_245 F_X11_placePassed (zR_rm (by omega)) (c_X11_placePassed X d (by omega) a0 σ7) ⟨by decide, rfl, rfl⟩ h0 rfl (Nat.le_of_ble_eq_true rfl) (fun r9 σ10 => ?_)
    refine z_istore2 9 18 rfl rfl rfl (fun v11 => ?_)
    refine z_aload0 10 19 rfl rfl ?_
    refine z_bipush 11 21 rfl rfl cb_10 ?_
    refine z_bipush 12 23 rfl rfl cb_13 ?_
    refine z_cV2I 13 26 rfl rfl zl_X11_161 F_X11_named (zR_rm (by omega)) (c_X11_named X d (by omega) a0 (10 : Int32) (13 : Int32) σ10) ⟨by decide, rfl, rfl⟩ h0 rfl (Nat.le_of_ble_eq_true rfl) (fun r12 σ13 => ?_)
    refine z_istore3 14 27 rfl rfl rfl (fun v14 => ?_)
    refine z_aload0 15 28 rfl rfl ?_
    refine z_cV0V 16 31 rfl rfl zl_X11_165 F_X11_pass (zR_rm (by omega)) (c_X11_pass X d (by omega) a0 σ13) ⟨by decide, rfl, rfl⟩ h0 rfl (Nat.le_of_ble_eq_true rfl) (fun r15 σ16 => ?_)
    refine z_aload0 17 32 rfl rfl ?_
    refine z_cV0I 18 35 rfl rfl zl_X11_257 F_X11_say (zR_rm (by omega)) (c_X11_say X d (by omega) a0 σ16) ⟨by decide, rfl, rfl⟩ h0 rfl (Nat.le_of_ble_eq_true rfl) (fun r17 σ18 => ?_)
    refine z_istore4 19 37 rfl rfl rfl (fun v19 => ?_)
    refine z_aload0 20 38 rfl rfl ?_
    refine z_ldcwS 21 41 15 rfl rfl (tx := "inches") (List.mem_of_getElem? (i := 33) rfl) ?_
    refine z_cV1V 22 44 rfl rfl zl_X11_171 F_X11_must (zR_rm (by omega)) (c_X11_must X d (by omega) a0 (1000 + 15) σ18) ⟨by decide, rfl, rfl⟩ h0 rfl (Nat.le_of_ble_eq_true rfl) (fun r20 σ21 => ?_)
    refine z_aload0 23 45 rfl rfl ?_
    refine z_iconst 24 46 rfl rfl ci_1 ?_
    refine z_bipush 25 48 rfl rfl cb_9 ?_
    refine z_cV2I 26 51 rfl rfl zl_X11_168 F_X11_numberHere (zR_rm (by omega)) (c_X11_numberHere X d (by omega) a0 (1 : Int32) (9 : Int32) σ21) ⟨by decide, rfl, rfl⟩ h0 rfl (Nat.le_of_ble_eq_true rfl) (fun r22 σ23 => ?_)
    refine z_istore5 27 53 rfl rfl rfl (fun v24 => ?_)
    refine z_aload0 28 54 rfl rfl ?_
    refine z_getI 29 57 13 rfl rfl zf_X11_103 rfl h0 ?_
    refine z_if_ne 30 60 88 rfl rfl (by decide) ?_ ?_
    · refine z_iload5 31 62 rfl rfl ?_
      refine z_aload0 32 63 rfl rfl ?_
      refine z_aload0 33 64 rfl rfl ?_
      refine z_getR 34 67 16 rfl rfl zf_X11_23 rfl h0 ?_
      refine z_aload0 35 68 rfl rfl ?_
      refine z_getR 36 71 18 rfl rfl zf_X11_29 rfl h0 ?_
      refine z_iload2 37 72 rfl rfl ?_
      refine z_cV3I 38 75 rfl rfl zl_X11_262 F_X11_roomOn (zR_rm (by omega)) (c_X11_roomOn X d a0 (σ23.2 a0 16) (σ23.2 a0 18) v11 σ23) ⟨by decide, rfl, rfl⟩ h0 rfl (Nat.le_of_ble_eq_true rfl) (fun r25 σ26 => ?_)
      refine z_icmp_le 39 78 88 rfl rfl (by decide) ?_ ?_
      · exact t_X11_wroteLine_88 X d hd a0 h0  v8 v11 v14 v19 v24 σ26
      · refine z_aload0 40 79 rfl rfl ?_
        refine z_bipush 41 81 rfl rfl cb_7 ?_
        refine z_aload0 42 82 rfl rfl ?_
        refine z_getI 43 85 4 rfl rfl zf_X11_84 rfl h0 ?_
        refine z_cV2V 44 88 rfl rfl zl_X11_130 F_X11_wrong (zR_rm (by omega)) (c_X11_wrong X d a0 (7 : Int32) (σ26.1 a0 4) σ26) ⟨by decide, rfl, rfl⟩ h0 rfl (Nat.le_of_ble_eq_true rfl) (fun r27 σ28 => ?_)
        exact t_X11_wroteLine_88 X d hd a0 h0  v8 v11 v14 v19 v24 σ28
    · exact t_X11_wroteLine_88 X d hd a0 h0  v8 v11 v14 v19 v24 σ23
  · exact z_vret 3 rfl rfl
def f_X11_hiddenLine (a0 : Nat) (σ : zS) : Option (Unit × zS) := zck (WM.2 a0 = (11, 0)) (zbr ((σ.1 a0 13) = 0) (zbd (f_X11_placePassed a0 σ) (fun r1 σ2 => zlt r1 (fun v3 => zbr ((σ2.1 a0 13) = 0) (zck (zok 100 (WM.2 (σ2.2 a0 16)) (6 : Int32)) (zck (zok 100 (WM.2 (σ2.2 a0 16)) ((38 : Int32) + (σ2.1 (σ2.2 a0 16) (6 : Int32).toNatClampNeg))) (zlt (zpi σ2 (σ2.2 a0 16) ((38 : Int32) + (σ2.1 (σ2.2 a0 16) (6 : Int32).toNatClampNeg)).toNatClampNeg v3) (fun σ4 => zck (zok 100 (WM.2 (σ4.2 a0 16)) (6 : Int32)) (zck (zok 100 (WM.2 (σ4.2 a0 16)) (6 : Int32)) (zlt (zpi σ4 (σ4.2 a0 16) (6 : Int32).toNatClampNeg ((σ4.1 (σ4.2 a0 16) (6 : Int32).toNatClampNeg) + (1 : Int32))) (fun σ5 => some ((), σ5)))))))) (some ((), σ2))))) (some ((), σ)))
theorem c_X11_hiddenLine (X : zX) (d : Nat) (hd : 12 ≤ d) (a0 : Nat) (σ : zS) : ∀ (r : Unit) (σ' : zS), f_X11_hiddenLine a0 σ = some (r, σ') → zCN X WM d M_X11_hiddenLine [.ref a0] σ (zeV r, σ') := by
  obtain ⟨d, rfl⟩ : ∃ e, d = e + 1 := ⟨d - 1, by omega⟩
  refine z_entry [.ref a0] (by decide +kernel) T_X11_hiddenLine (Nat.le_of_ble_eq_true rfl) ?_
  show zK X WM (zrm (d + 1)) M_X11_hiddenLine (zZ X WM zeV) 0 [some (.ref a0), none] [] σ (f_X11_hiddenLine a0 σ)
  unfold f_X11_hiddenLine
  refine z_ck (fun h0 => ?_)
  refine z_aload0 0 1 rfl rfl ?_
  refine z_getI 1 4 13 rfl rfl zf_X11_103 rfl h0 ?_
  refine z_if_eq 2 7 8 rfl rfl (by decide) ?_ ?_
  · refine z_aload0 4 9 rfl rfl ?_
    refine z_cV0I 5 12 rfl rfl zl_X11_245 F_X11_placePassed (zR_rm (by omega)) (c_X11_placePassed X d (by omega) a0 σ) ⟨by decide, rfl, rfl⟩ h0 rfl (Nat.le_of_ble_eq_true rfl) (fun r1 σ2 => ?_)
    refine z_istore1 6 13 rfl rfl rfl (fun v3 => ?_)
    refine z_aload0 7 14 rfl rfl ?_
    refine z_getI 8 17 13 rfl rfl zf_X11_103 rfl h0 ?_
    refine z_if_eq 9 20 21 rfl rfl (by decide) ?_ ?_
    · refine z_aload0 11 22 rfl rfl ?_
      refine z_getR 12 25 16 rfl rfl zf_X11_23 rfl h0 ?_
      refine z_bipush 13 27 rfl rfl cb_38 ?_
      refine z_aload0 14 28 rfl rfl ?_
      refine z_getR 15 31 16 rfl rfl zf_X11_23 rfl h0 ?_
      refine z_bipush 16 33 rfl rfl cb_6 ?_
      refine z_iald 17 34 rfl rfl ?_
      refine z_iadd 18 35 rfl rfl ?_
      refine z_iload1 19 36 rfl rfl ?_
      refine z_iast 20 37 rfl rfl (fun σ4 => ?_)
      refine z_aload0 21 38 rfl rfl ?_
      refine z_getR 22 41 16 rfl rfl zf_X11_23 rfl h0 ?_
      refine z_bipush 23 43 rfl rfl cb_6 ?_
      refine z_dup2 24 44 rfl rfl rfl rfl ?_
      refine z_iald 25 45 rfl rfl ?_
      refine z_iconst 26 46 rfl rfl ci_1 ?_
      refine z_iadd 27 47 rfl rfl ?_
      refine z_iast 28 48 rfl rfl (fun σ5 => ?_)
      exact z_vret 29 rfl rfl
    · exact z_vret 10 rfl rfl
  · exact z_vret 3 rfl rfl
def f_X11_doneLine_68 (a0 : Nat) (x1 : Int32) (s0 : Int32) (σ : zS) : Option (Unit × zS) := zlt s0 (fun v1 => zbr ((σ.1 a0 13) = 0) (zck (zok 100 (WM.2 (σ.2 a0 16)) ((41 : Int32) + x1)) (zlt (zpi σ (σ.2 a0 16) ((41 : Int32) + x1).toNatClampNeg (v1 + (3 : Int32))) (fun σ2 => zck (zok 100 (WM.2 (σ2.2 a0 16)) (7 : Int32)) (zck (zok 100 (WM.2 (σ2.2 a0 16)) (7 : Int32)) (zlt (zpi σ2 (σ2.2 a0 16) (7 : Int32).toNatClampNeg ((σ2.1 (σ2.2 a0 16) (7 : Int32).toNatClampNeg) + (1 : Int32))) (fun σ3 => some ((), σ3))))))) (some ((), σ)))
theorem t_X11_doneLine_68 (X : zX) (d : Nat) (hd : 12 ≤ d + 1) (a0 : Nat) (h0 : WM.2 a0 = (11, 0)) (x1 : Int32) (s0 : Int32) (σ : zS) : zK X WM (zrm (d + 1)) M_X11_doneLine (zZ X WM zeV) 68 [some (.ref a0), some (.int x1), none] [.int s0] σ (f_X11_doneLine_68 a0 x1 s0 σ) := by
  unfold f_X11_doneLine_68
  refine z_istore2 34 69 rfl rfl rfl (fun v1 => ?_)
  refine z_aload0 35 70 rfl rfl ?_
  refine z_getI 36 73 13 rfl rfl zf_X11_103 rfl h0 ?_
  refine z_if_eq 37 76 77 rfl rfl (by decide) ?_ ?_
  · refine z_aload0 39 78 rfl rfl ?_
    refine z_getR 40 81 16 rfl rfl zf_X11_23 rfl h0 ?_
    refine z_bipush 41 83 rfl rfl cb_41 ?_
    refine z_iload1 42 84 rfl rfl ?_
    refine z_iadd 43 85 rfl rfl ?_
    refine z_iload2 44 86 rfl rfl ?_
    refine z_iconst 45 87 rfl rfl ci_3 ?_
    refine z_iadd 46 88 rfl rfl ?_
    refine z_iast 47 89 rfl rfl (fun σ2 => ?_)
    refine z_aload0 48 90 rfl rfl ?_
    refine z_getR 49 93 16 rfl rfl zf_X11_23 rfl h0 ?_
    refine z_bipush 50 95 rfl rfl cb_7 ?_
    refine z_dup2 51 96 rfl rfl rfl rfl ?_
    refine z_iald 52 97 rfl rfl ?_
    refine z_iconst 53 98 rfl rfl ci_1 ?_
    refine z_iadd 54 99 rfl rfl ?_
    refine z_iast 55 100 rfl rfl (fun σ3 => ?_)
    exact z_vret 56 rfl rfl
  · exact z_vret 38 rfl rfl
def f_X11_doneLine_45 (a0 : Nat) (x1 : Int32) (σ : zS) : Option (Unit × zS) := zbd (f_X11_pass a0 σ) (fun r4 σ5 => zbd (f_X11_takesWord a0 (1000 + 16) σ5) (fun r6 σ7 => zbr (r6 = 0) (zbd (f_X11_say a0 σ7) (fun r8 σ9 => f_X11_doneLine_68 a0 x1 r8 σ9)) (f_X11_doneLine_68 a0 x1 (-2 : Int32) σ7)))
theorem t_X11_doneLine_45 (X : zX) (d : Nat) (hd : 12 ≤ d + 1) (a0 : Nat) (h0 : WM.2 a0 = (11, 0)) (x1 : Int32) (σ : zS) : zK X WM (zrm (d + 1)) M_X11_doneLine (zZ X WM zeV) 45 [some (.ref a0), some (.int x1), none] [] σ (f_X11_doneLine_45 a0 x1 σ) := by
  unfold f_X11_doneLine_45
  refine z_aload0 24 46 rfl rfl ?_
  refine z_cV0V 25 49 rfl rfl zl_X11_165 F_X11_pass (zR_rm (by omega)) (c_X11_pass X d (by omega) a0 σ) ⟨by decide, rfl, rfl⟩ h0 rfl (Nat.le_of_ble_eq_true rfl) (fun r4 σ5 => ?_)
  refine z_aload0 26 50 rfl rfl ?_
  refine z_ldcwS 27 53 16 rfl rfl (tx := "doubt") (List.mem_of_getElem? (i := 34) rfl) ?_
  refine z_cV1I 28 56 rfl rfl zl_X11_127 F_X11_takesWord (zR_rm (by omega)) (c_X11_takesWord X d (by omega) a0 (1000 + 16) σ5) ⟨by decide, rfl, rfl⟩ h0 rfl (Nat.le_of_ble_eq_true rfl) (fun r6 σ7 => ?_)
  refine z_if_eq 29 59 64 rfl rfl (by decide) ?_ ?_
  · refine z_aload0 32 65 rfl rfl ?_
    refine z_cV0I 33 68 rfl rfl zl_X11_257 F_X11_say (zR_rm (by omega)) (c_X11_say X d (by omega) a0 σ7) ⟨by decide, rfl, rfl⟩ h0 rfl (Nat.le_of_ble_eq_true rfl) (fun r8 σ9 => ?_)
    exact t_X11_doneLine_68 X d hd a0 h0  x1 r8 σ9
  · refine z_bipush 30 61 rfl rfl cb_m2 ?_
    refine z_goto 31 68 rfl (by decide) ?_
    exact t_X11_doneLine_68 X d hd a0 h0  x1 (-2 : Int32) σ7
def f_X11_doneLine (a0 : Nat) (σ : zS) : Option (Unit × zS) := zck (WM.2 a0 = (11, 0)) (zbr ((σ.1 a0 13) = 0) (zbd (f_X11_named a0 (10 : Int32) (13 : Int32) σ) (fun r10 σ11 => zlt r10 (fun v12 => zbr ((σ11.1 a0 13) = 0) (zck (zok 100 (WM.2 (σ11.2 a0 16)) ((41 : Int32) + v12)) (zbr ((σ11.1 (σ11.2 a0 16) ((41 : Int32) + v12).toNatClampNeg) ≤ 0) (f_X11_doneLine_45 a0 v12 σ11) (zbd (f_X11_wrong a0 (3 : Int32) (σ11.1 a0 4) σ11) (fun r13 σ14 => f_X11_doneLine_45 a0 v12 σ14)))) (f_X11_doneLine_45 a0 v12 σ11)))) (some ((), σ)))
theorem c_X11_doneLine (X : zX) (d : Nat) (hd : 12 ≤ d) (a0 : Nat) (σ : zS) : ∀ (r : Unit) (σ' : zS), f_X11_doneLine a0 σ = some (r, σ') → zCN X WM d M_X11_doneLine [.ref a0] σ (zeV r, σ') := by
  obtain ⟨d, rfl⟩ : ∃ e, d = e + 1 := ⟨d - 1, by omega⟩
  refine z_entry [.ref a0] (by decide +kernel) T_X11_doneLine (Nat.le_of_ble_eq_true rfl) ?_
  show zK X WM (zrm (d + 1)) M_X11_doneLine (zZ X WM zeV) 0 [some (.ref a0), none, none] [] σ (f_X11_doneLine a0 σ)
  unfold f_X11_doneLine
  refine z_ck (fun h0 => ?_)
  refine z_aload0 0 1 rfl rfl ?_
  refine z_getI 1 4 13 rfl rfl zf_X11_103 rfl h0 ?_
  refine z_if_eq 2 7 8 rfl rfl (by decide) ?_ ?_
  · refine z_aload0 4 9 rfl rfl ?_
    refine z_bipush 5 11 rfl rfl cb_10 ?_
    refine z_bipush 6 13 rfl rfl cb_13 ?_
    refine z_cV2I 7 16 rfl rfl zl_X11_161 F_X11_named (zR_rm (by omega)) (c_X11_named X d (by omega) a0 (10 : Int32) (13 : Int32) σ) ⟨by decide, rfl, rfl⟩ h0 rfl (Nat.le_of_ble_eq_true rfl) (fun r10 σ11 => ?_)
    refine z_istore1 8 17 rfl rfl rfl (fun v12 => ?_)
    refine z_aload0 9 18 rfl rfl ?_
    refine z_getI 10 21 13 rfl rfl zf_X11_103 rfl h0 ?_
    refine z_if_ne 11 24 45 rfl rfl (by decide) ?_ ?_
    · refine z_aload0 12 25 rfl rfl ?_
      refine z_getR 13 28 16 rfl rfl zf_X11_23 rfl h0 ?_
      refine z_bipush 14 30 rfl rfl cb_41 ?_
      refine z_iload1 15 31 rfl rfl ?_
      refine z_iadd 16 32 rfl rfl ?_
      refine z_iald 17 33 rfl rfl ?_
      refine z_if_le 18 36 45 rfl rfl (by decide) ?_ ?_
      · exact t_X11_doneLine_45 X d hd a0 h0  v12 σ11
      · refine z_aload0 19 37 rfl rfl ?_
        refine z_iconst 20 38 rfl rfl ci_3 ?_
        refine z_aload0 21 39 rfl rfl ?_
        refine z_getI 22 42 4 rfl rfl zf_X11_84 rfl h0 ?_
        refine z_cV2V 23 45 rfl rfl zl_X11_130 F_X11_wrong (zR_rm (by omega)) (c_X11_wrong X d a0 (3 : Int32) (σ11.1 a0 4) σ11) ⟨by decide, rfl, rfl⟩ h0 rfl (Nat.le_of_ble_eq_true rfl) (fun r13 σ14 => ?_)
        exact t_X11_doneLine_45 X d hd a0 h0  v12 σ14
    · exact t_X11_doneLine_45 X d hd a0 h0  v12 σ11
  · exact z_vret 3 rfl rfl
def f_X11_bidLine (a0 : Nat) (σ : zS) : Option (Unit × zS) := zck (WM.2 a0 = (11, 0)) (zbr ((σ.1 a0 13) = 0) (zck (zok 100 (WM.2 (σ.2 a0 16)) (8 : Int32)) (zlt ((45 : Int32) + ((4 : Int32) * (σ.1 (σ.2 a0 16) (8 : Int32).toNatClampNeg))) (fun v1 => zbd (f_X11_handPassed a0 σ) (fun r2 σ3 => zck (zok 100 (WM.2 (σ.2 a0 16)) v1) (zlt (zpi σ3 (σ.2 a0 16) v1.toNatClampNeg r2) (fun σ4 => zbd (f_X11_placePassed a0 σ4) (fun r5 σ6 => zck (zok 100 (WM.2 (σ4.2 a0 16)) (v1 + (1 : Int32))) (zlt (zpi σ6 (σ4.2 a0 16) (v1 + (1 : Int32)).toNatClampNeg r5) (fun σ7 => zbd (f_X11_after a0 (1000 + 15) (1 : Int32) (9 : Int32) σ7) (fun r8 σ9 => zck (zok 100 (WM.2 (σ7.2 a0 16)) (v1 + (2 : Int32))) (zlt (zpi σ9 (σ7.2 a0 16) (v1 + (2 : Int32)).toNatClampNeg r8) (fun σ10 => zbd (f_X11_after a0 (1000 + 17) (0 : Int32) (99 : Int32) σ10) (fun r11 σ12 => zck (zok 100 (WM.2 (σ10.2 a0 16)) (v1 + (3 : Int32))) (zlt (zpi σ12 (σ10.2 a0 16) (v1 + (3 : Int32)).toNatClampNeg r11) (fun σ13 => zbr ((σ13.1 a0 13) = 0) (zck (zok 100 (WM.2 (σ13.2 a0 16)) (8 : Int32)) (zck (zok 100 (WM.2 (σ13.2 a0 16)) (8 : Int32)) (zlt (zpi σ13 (σ13.2 a0 16) (8 : Int32).toNatClampNeg ((σ13.1 (σ13.2 a0 16) (8 : Int32).toNatClampNeg) + (1 : Int32))) (fun σ14 => some ((), σ14))))) (some ((), σ13))))))))))))))))) (some ((), σ)))
theorem c_X11_bidLine (X : zX) (d : Nat) (hd : 12 ≤ d) (a0 : Nat) (σ : zS) : ∀ (r : Unit) (σ' : zS), f_X11_bidLine a0 σ = some (r, σ') → zCN X WM d M_X11_bidLine [.ref a0] σ (zeV r, σ') := by
  obtain ⟨d, rfl⟩ : ∃ e, d = e + 1 := ⟨d - 1, by omega⟩
  refine z_entry [.ref a0] (by decide +kernel) T_X11_bidLine (Nat.le_of_ble_eq_true rfl) ?_
  show zK X WM (zrm (d + 1)) M_X11_bidLine (zZ X WM zeV) 0 [some (.ref a0), none] [] σ (f_X11_bidLine a0 σ)
  unfold f_X11_bidLine
  refine z_ck (fun h0 => ?_)
  refine z_aload0 0 1 rfl rfl ?_
  refine z_getI 1 4 13 rfl rfl zf_X11_103 rfl h0 ?_
  refine z_if_eq 2 7 8 rfl rfl (by decide) ?_ ?_
  · refine z_bipush 4 10 rfl rfl cb_45 ?_
    refine z_iconst 5 11 rfl rfl ci_4 ?_
    refine z_aload0 6 12 rfl rfl ?_
    refine z_getR 7 15 16 rfl rfl zf_X11_23 rfl h0 ?_
    refine z_bipush 8 17 rfl rfl cb_8 ?_
    refine z_iald 9 18 rfl rfl ?_
    refine z_imul 10 19 rfl rfl ?_
    refine z_iadd 11 20 rfl rfl ?_
    refine z_istore1 12 21 rfl rfl rfl (fun v1 => ?_)
    refine z_aload0 13 22 rfl rfl ?_
    refine z_getR 14 25 16 rfl rfl zf_X11_23 rfl h0 ?_
    refine z_iload1 15 26 rfl rfl ?_
    refine z_aload0 16 27 rfl rfl ?_
    refine z_cV0I 17 30 rfl rfl zl_X11_254 F_X11_handPassed (zR_rm (by omega)) (c_X11_handPassed X d (by omega) a0 σ) ⟨by decide, rfl, rfl⟩ h0 rfl (Nat.le_of_ble_eq_true rfl) (fun r2 σ3 => ?_)
    refine z_iast 18 31 rfl rfl (fun σ4 => ?_)
    refine z_aload0 19 32 rfl rfl ?_
    refine z_getR 20 35 16 rfl rfl zf_X11_23 rfl h0 ?_
    refine z_iload1 21 36 rfl rfl ?_
    refine z_iconst 22 37 rfl rfl ci_1 ?_
    refine z_iadd 23 38 rfl rfl ?_
    refine z_aload0 24 39 rfl rfl ?_
    refine z_cV0I 25 42 rfl rfl zl_X11_245 F_X11_placePassed (zR_rm (by omega)) (c_X11_placePassed X d (by omega) a0 σ4) ⟨by decide, rfl, rfl⟩ h0 rfl (Nat.le_of_ble_eq_true rfl) (fun r5 σ6 => ?_)
    refine z_iast 26 43 rfl rfl (fun σ7 => ?_)
    refine z_aload0 27 44 rfl rfl ?_
    refine z_getR 28 47 16 rfl rfl zf_X11_23 rfl h0 ?_
    refine z_iload1 29 48 rfl rfl ?_
    refine z_iconst 30 49 rfl rfl ci_2 ?_
    refine z_iadd 31 50 rfl rfl ?_
    refine z_aload0 32 51 rfl rfl ?_
    refine z_ldcwS 33 54 15 rfl rfl (tx := "inches") (List.mem_of_getElem? (i := 33) rfl) ?_
    refine z_iconst 34 55 rfl rfl ci_1 ?_
    refine z_bipush 35 57 rfl rfl cb_9 ?_
    refine z_cV3I 36 60 rfl rfl zl_X11_233 F_X11_after (zR_rm (by omega)) (c_X11_after X d (by omega) a0 (1000 + 15) (1 : Int32) (9 : Int32) σ7) ⟨by decide, rfl, rfl⟩ h0 rfl (Nat.le_of_ble_eq_true rfl) (fun r8 σ9 => ?_)
    refine z_iast 37 61 rfl rfl (fun σ10 => ?_)
    refine z_aload0 38 62 rfl rfl ?_
    refine z_getR 39 65 16 rfl rfl zf_X11_23 rfl h0 ?_
    refine z_iload1 40 66 rfl rfl ?_
    refine z_iconst 41 67 rfl rfl ci_3 ?_
    refine z_iadd 42 68 rfl rfl ?_
    refine z_aload0 43 69 rfl rfl ?_
    refine z_ldcwS 44 72 17 rfl rfl (tx := "pays") (List.mem_of_getElem? (i := 35) rfl) ?_
    refine z_iconst 45 73 rfl rfl ci_0 ?_
    refine z_bipush 46 75 rfl rfl cb_99 ?_
    refine z_cV3I 47 78 rfl rfl zl_X11_233 F_X11_after (zR_rm (by omega)) (c_X11_after X d (by omega) a0 (1000 + 17) (0 : Int32) (99 : Int32) σ10) ⟨by decide, rfl, rfl⟩ h0 rfl (Nat.le_of_ble_eq_true rfl) (fun r11 σ12 => ?_)
    refine z_iast 48 79 rfl rfl (fun σ13 => ?_)
    refine z_aload0 49 80 rfl rfl ?_
    refine z_getI 50 83 13 rfl rfl zf_X11_103 rfl h0 ?_
    refine z_if_ne 51 86 97 rfl rfl (by decide) ?_ ?_
    · refine z_aload0 52 87 rfl rfl ?_
      refine z_getR 53 90 16 rfl rfl zf_X11_23 rfl h0 ?_
      refine z_bipush 54 92 rfl rfl cb_8 ?_
      refine z_dup2 55 93 rfl rfl rfl rfl ?_
      refine z_iald 56 94 rfl rfl ?_
      refine z_iconst 57 95 rfl rfl ci_1 ?_
      refine z_iadd 58 96 rfl rfl ?_
      refine z_iast 59 97 rfl rfl (fun σ14 => ?_)
      exact z_vret 60 rfl rfl
    · exact z_vret 60 rfl rfl
  · exact z_vret 3 rfl rfl
def f_X11_readLine_244 (a0 : Nat) (s0 : Nat) (s1 : Nat) (s2 : Int32) (σ : zS) : Option (Unit × zS) := zck (WM.2 s0 = (11, 0)) (zbd (f_X11_begins s0 s1 s2 σ) (fun r2 σ3 => zbr (r2 = 0) (zbd (f_X11_wrong a0 (1 : Int32) (σ3.1 a0 4) σ3) (fun r4 σ5 => some ((), σ5))) (zbd (f_X11_bidLine a0 σ3) (fun r6 σ7 => some ((), σ7)))))
theorem t_X11_readLine_244 (X : zX) (d : Nat) (hd : 13 ≤ d + 1) (a0 : Nat) (h0 : WM.2 a0 = (11, 0)) (s0 : Nat) (s1 : Nat) (s2 : Int32) (σ : zS) : zK X WM (zrm (d + 1)) M_X11_readLine (zZ X WM zeV) 244 [some (.ref a0)] [.int s2, .ref s1, .ref s0] σ (f_X11_readLine_244 a0 s0 s1 s2 σ) := by
  unfold f_X11_readLine_244
  refine z_ck (fun h1 => ?_)
  refine z_cV2I 122 247 rfl rfl zl_X11_203 F_X11_begins (zR_rm (by omega)) (c_X11_begins X d (by omega) s0 s1 s2 σ) ⟨by decide, rfl, rfl⟩ h1 rfl (Nat.le_of_ble_eq_true rfl) (fun r2 σ3 => ?_)
  refine z_if_eq 123 250 257 rfl rfl (by decide) ?_ ?_
  · refine z_aload0 127 258 rfl rfl ?_
    refine z_iconst 128 259 rfl rfl ci_1 ?_
    refine z_aload0 129 260 rfl rfl ?_
    refine z_getI 130 263 4 rfl rfl zf_X11_84 rfl h0 ?_
    refine z_cV2V 131 266 rfl rfl zl_X11_130 F_X11_wrong (zR_rm (by omega)) (c_X11_wrong X d a0 (1 : Int32) (σ3.1 a0 4) σ3) ⟨by decide, rfl, rfl⟩ h0 rfl (Nat.le_of_ble_eq_true rfl) (fun r4 σ5 => ?_)
    exact z_vret 132 rfl rfl
  · refine z_aload0 124 251 rfl rfl ?_
    refine z_cV0V 125 254 rfl rfl zl_X11_228 F_X11_bidLine (zR_rm (by omega)) (c_X11_bidLine X d (by omega) a0 σ3) ⟨by decide, rfl, rfl⟩ h0 rfl (Nat.le_of_ble_eq_true rfl) (fun r6 σ7 => ?_)
    refine z_goto 126 266 rfl (by decide) ?_
    exact z_vret 132 rfl rfl
def f_X11_readLine_194 (a0 : Nat) (s0 : Nat) (s1 : Nat) (s2 : Int32) (σ : zS) : Option (Unit × zS) := zck (WM.2 s0 = (11, 0)) (zbd (f_X11_begins s0 s1 s2 σ) (fun r9 σ10 => zbr (r9 = 0) (zbd (f_X11_begins a0 (1000 + 7) (1 : Int32) σ10) (fun r11 σ12 => zbr (r11 = 0) (zck (zok 100 (WM.2 (σ12.2 a0 16)) (8 : Int32)) (zbr ((6 : Int32) ≤ (σ12.1 (σ12.2 a0 16) (8 : Int32).toNatClampNeg)) (f_X11_readLine_244 a0 a0 (1000 + 8) (0 : Int32) σ12) (f_X11_readLine_244 a0 a0 (1000 + 8) (1 : Int32) σ12))) (zbd (f_X11_doneLine a0 σ12) (fun r13 σ14 => some ((), σ14))))) (zbd (f_X11_hiddenLine a0 σ10) (fun r15 σ16 => some ((), σ16)))))
theorem t_X11_readLine_194 (X : zX) (d : Nat) (hd : 13 ≤ d + 1) (a0 : Nat) (h0 : WM.2 a0 = (11, 0)) (s0 : Nat) (s1 : Nat) (s2 : Int32) (σ : zS) : zK X WM (zrm (d + 1)) M_X11_readLine (zZ X WM zeV) 194 [some (.ref a0)] [.int s2, .ref s1, .ref s0] σ (f_X11_readLine_194 a0 s0 s1 s2 σ) := by
  unfold f_X11_readLine_194
  refine z_ck (fun h8 => ?_)
  refine z_cV2I 98 197 rfl rfl zl_X11_203 F_X11_begins (zR_rm (by omega)) (c_X11_begins X d (by omega) s0 s1 s2 σ) ⟨by decide, rfl, rfl⟩ h8 rfl (Nat.le_of_ble_eq_true rfl) (fun r9 σ10 => ?_)
  refine z_if_eq 99 200 207 rfl rfl (by decide) ?_ ?_
  · refine z_aload0 103 208 rfl rfl ?_
    refine z_ldcS 104 210 7 rfl rfl (tx := "done") (List.mem_of_getElem? (i := 26) rfl) ?_
    refine z_iconst 105 211 rfl rfl ci_1 ?_
    refine z_cV2I 106 214 rfl rfl zl_X11_203 F_X11_begins (zR_rm (by omega)) (c_X11_begins X d (by omega) a0 (1000 + 7) (1 : Int32) σ10) ⟨by decide, rfl, rfl⟩ h0 rfl (Nat.le_of_ble_eq_true rfl) (fun r11 σ12 => ?_)
    refine z_if_eq 107 217 224 rfl rfl (by decide) ?_ ?_
    · refine z_aload0 111 225 rfl rfl ?_
      refine z_ldcS 112 227 8 rfl rfl (tx := "bid") (List.mem_of_getElem? (i := 27) rfl) ?_
      refine z_aload0 113 228 rfl rfl ?_
      refine z_getR 114 231 16 rfl rfl zf_X11_23 rfl h0 ?_
      refine z_bipush 115 233 rfl rfl cb_8 ?_
      refine z_iald 116 234 rfl rfl ?_
      refine z_bipush 117 236 rfl rfl cb_6 ?_
      refine z_icmp_ge 118 239 243 rfl rfl (by decide) ?_ ?_
      · refine z_iconst 121 244 rfl rfl ci_0 ?_
        exact t_X11_readLine_244 X d hd a0 h0  a0 (1000 + 8) (0 : Int32) σ12
      · refine z_iconst 119 240 rfl rfl ci_1 ?_
        refine z_goto 120 244 rfl (by decide) ?_
        exact t_X11_readLine_244 X d hd a0 h0  a0 (1000 + 8) (1 : Int32) σ12
    · refine z_aload0 108 218 rfl rfl ?_
      refine z_cV0V 109 221 rfl rfl zl_X11_225 F_X11_doneLine (zR_rm (by omega)) (c_X11_doneLine X d (by omega) a0 σ12) ⟨by decide, rfl, rfl⟩ h0 rfl (Nat.le_of_ble_eq_true rfl) (fun r13 σ14 => ?_)
      refine z_goto 110 266 rfl (by decide) ?_
      exact z_vret 132 rfl rfl
  · refine z_aload0 100 201 rfl rfl ?_
    refine z_cV0V 101 204 rfl rfl zl_X11_222 F_X11_hiddenLine (zR_rm (by omega)) (c_X11_hiddenLine X d (by omega) a0 σ10) ⟨by decide, rfl, rfl⟩ h0 rfl (Nat.le_of_ble_eq_true rfl) (fun r15 σ16 => ?_)
    refine z_goto 102 266 rfl (by decide) ?_
    exact z_vret 132 rfl rfl
def f_X11_readLine_162 (a0 : Nat) (s0 : Nat) (s1 : Nat) (s2 : Int32) (σ : zS) : Option (Unit × zS) := zck (WM.2 s0 = (11, 0)) (zbd (f_X11_begins s0 s1 s2 σ) (fun r18 σ19 => zbr (r18 = 0) (zck (zok 100 (WM.2 (σ19.2 a0 16)) (6 : Int32)) (zbr ((3 : Int32) ≤ (σ19.1 (σ19.2 a0 16) (6 : Int32).toNatClampNeg)) (f_X11_readLine_194 a0 a0 (1000 + 6) (0 : Int32) σ19) (f_X11_readLine_194 a0 a0 (1000 + 6) (1 : Int32) σ19))) (zbd (f_X11_wroteLine a0 σ19) (fun r20 σ21 => some ((), σ21)))))
theorem t_X11_readLine_162 (X : zX) (d : Nat) (hd : 13 ≤ d + 1) (a0 : Nat) (h0 : WM.2 a0 = (11, 0)) (s0 : Nat) (s1 : Nat) (s2 : Int32) (σ : zS) : zK X WM (zrm (d + 1)) M_X11_readLine (zZ X WM zeV) 162 [some (.ref a0)] [.int s2, .ref s1, .ref s0] σ (f_X11_readLine_162 a0 s0 s1 s2 σ) := by
  unfold f_X11_readLine_162
  refine z_ck (fun h17 => ?_)
  refine z_cV2I 82 165 rfl rfl zl_X11_203 F_X11_begins (zR_rm (by omega)) (c_X11_begins X d (by omega) s0 s1 s2 σ) ⟨by decide, rfl, rfl⟩ h17 rfl (Nat.le_of_ble_eq_true rfl) (fun r18 σ19 => ?_)
  refine z_if_eq 83 168 175 rfl rfl (by decide) ?_ ?_
  · refine z_aload0 87 176 rfl rfl ?_
    refine z_ldcS 88 178 6 rfl rfl (tx := "hidden") (List.mem_of_getElem? (i := 25) rfl) ?_
    refine z_aload0 89 179 rfl rfl ?_
    refine z_getR 90 182 16 rfl rfl zf_X11_23 rfl h0 ?_
    refine z_bipush 91 184 rfl rfl cb_6 ?_
    refine z_iald 92 185 rfl rfl ?_
    refine z_iconst 93 186 rfl rfl ci_3 ?_
    refine z_icmp_ge 94 189 193 rfl rfl (by decide) ?_ ?_
    · refine z_iconst 97 194 rfl rfl ci_0 ?_
      exact t_X11_readLine_194 X d hd a0 h0  a0 (1000 + 6) (0 : Int32) σ19
    · refine z_iconst 95 190 rfl rfl ci_1 ?_
      refine z_goto 96 194 rfl (by decide) ?_
      exact t_X11_readLine_194 X d hd a0 h0  a0 (1000 + 6) (1 : Int32) σ19
  · refine z_aload0 84 169 rfl rfl ?_
    refine z_cV0V 85 172 rfl rfl zl_X11_219 F_X11_wroteLine (zR_rm (by omega)) (c_X11_wroteLine X d (by omega) a0 σ19) ⟨by decide, rfl, rfl⟩ h0 rfl (Nat.le_of_ble_eq_true rfl) (fun r20 σ21 => ?_)
    refine z_goto 86 266 rfl (by decide) ?_
    exact z_vret 132 rfl rfl
def f_X11_readLine_129 (a0 : Nat) (s0 : Nat) (s1 : Nat) (s2 : Int32) (σ : zS) : Option (Unit × zS) := zck (WM.2 s0 = (11, 0)) (zbd (f_X11_begins s0 s1 s2 σ) (fun r23 σ24 => zbr (r23 = 0) (zck (zok 100 (WM.2 (σ24.2 a0 18)) (48 : Int32)) (zbr ((8 : Int32) ≤ (σ24.1 (σ24.2 a0 18) (48 : Int32).toNatClampNeg)) (f_X11_readLine_162 a0 a0 (1000 + 5) (0 : Int32) σ24) (f_X11_readLine_162 a0 a0 (1000 + 5) (1 : Int32) σ24))) (zbd (f_X11_matterLine a0 σ24) (fun r25 σ26 => some ((), σ26)))))
theorem t_X11_readLine_129 (X : zX) (d : Nat) (hd : 13 ≤ d + 1) (a0 : Nat) (h0 : WM.2 a0 = (11, 0)) (s0 : Nat) (s1 : Nat) (s2 : Int32) (σ : zS) : zK X WM (zrm (d + 1)) M_X11_readLine (zZ X WM zeV) 129 [some (.ref a0)] [.int s2, .ref s1, .ref s0] σ (f_X11_readLine_129 a0 s0 s1 s2 σ) := by
  unfold f_X11_readLine_129
  refine z_ck (fun h22 => ?_)
  refine z_cV2I 66 132 rfl rfl zl_X11_203 F_X11_begins (zR_rm (by omega)) (c_X11_begins X d (by omega) s0 s1 s2 σ) ⟨by decide, rfl, rfl⟩ h22 rfl (Nat.le_of_ble_eq_true rfl) (fun r23 σ24 => ?_)
  refine z_if_eq 67 135 142 rfl rfl (by decide) ?_ ?_
  · refine z_aload0 71 143 rfl rfl ?_
    refine z_ldcS 72 145 5 rfl rfl (tx := "wrote") (List.mem_of_getElem? (i := 24) rfl) ?_
    refine z_aload0 73 146 rfl rfl ?_
    refine z_getR 74 149 18 rfl rfl zf_X11_29 rfl h0 ?_
    refine z_bipush 75 151 rfl rfl cb_48 ?_
    refine z_iald 76 152 rfl rfl ?_
    refine z_bipush 77 154 rfl rfl cb_8 ?_
    refine z_icmp_ge 78 157 161 rfl rfl (by decide) ?_ ?_
    · refine z_iconst 81 162 rfl rfl ci_0 ?_
      exact t_X11_readLine_162 X d hd a0 h0  a0 (1000 + 5) (0 : Int32) σ24
    · refine z_iconst 79 158 rfl rfl ci_1 ?_
      refine z_goto 80 162 rfl (by decide) ?_
      exact t_X11_readLine_162 X d hd a0 h0  a0 (1000 + 5) (1 : Int32) σ24
  · refine z_aload0 68 136 rfl rfl ?_
    refine z_cV0V 69 139 rfl rfl zl_X11_216 F_X11_matterLine (zR_rm (by omega)) (c_X11_matterLine X d (by omega) a0 σ24) ⟨by decide, rfl, rfl⟩ h0 rfl (Nat.le_of_ble_eq_true rfl) (fun r25 σ26 => ?_)
    refine z_goto 70 266 rfl (by decide) ?_
    exact z_vret 132 rfl rfl
def f_X11_readLine_98 (a0 : Nat) (s0 : Nat) (s1 : Nat) (s2 : Int32) (σ : zS) : Option (Unit × zS) := zck (WM.2 s0 = (11, 0)) (zbd (f_X11_begins s0 s1 s2 σ) (fun r28 σ29 => zbr (r28 = 0) (zck (zok 100 (WM.2 (σ29.2 a0 16)) (4 : Int32)) (zbr ((4 : Int32) ≤ (σ29.1 (σ29.2 a0 16) (4 : Int32).toNatClampNeg)) (f_X11_readLine_129 a0 a0 (1000 + 4) (0 : Int32) σ29) (f_X11_readLine_129 a0 a0 (1000 + 4) (1 : Int32) σ29))) (zbd (f_X11_handLine a0 σ29) (fun r30 σ31 => some ((), σ31)))))
theorem t_X11_readLine_98 (X : zX) (d : Nat) (hd : 13 ≤ d + 1) (a0 : Nat) (h0 : WM.2 a0 = (11, 0)) (s0 : Nat) (s1 : Nat) (s2 : Int32) (σ : zS) : zK X WM (zrm (d + 1)) M_X11_readLine (zZ X WM zeV) 98 [some (.ref a0)] [.int s2, .ref s1, .ref s0] σ (f_X11_readLine_98 a0 s0 s1 s2 σ) := by
  unfold f_X11_readLine_98
  refine z_ck (fun h27 => ?_)
  refine z_cV2I 50 101 rfl rfl zl_X11_203 F_X11_begins (zR_rm (by omega)) (c_X11_begins X d (by omega) s0 s1 s2 σ) ⟨by decide, rfl, rfl⟩ h27 rfl (Nat.le_of_ble_eq_true rfl) (fun r28 σ29 => ?_)
  refine z_if_eq 51 104 111 rfl rfl (by decide) ?_ ?_
  · refine z_aload0 55 112 rfl rfl ?_
    refine z_ldcS 56 114 4 rfl rfl (tx := "matte\x72") (List.mem_of_getElem? (i := 23) rfl) ?_
    refine z_aload0 57 115 rfl rfl ?_
    refine z_getR 58 118 16 rfl rfl zf_X11_23 rfl h0 ?_
    refine z_iconst 59 119 rfl rfl ci_4 ?_
    refine z_iald 60 120 rfl rfl ?_
    refine z_iconst 61 121 rfl rfl ci_4 ?_
    refine z_icmp_ge 62 124 128 rfl rfl (by decide) ?_ ?_
    · refine z_iconst 65 129 rfl rfl ci_0 ?_
      exact t_X11_readLine_129 X d hd a0 h0  a0 (1000 + 4) (0 : Int32) σ29
    · refine z_iconst 63 125 rfl rfl ci_1 ?_
      refine z_goto 64 129 rfl (by decide) ?_
      exact t_X11_readLine_129 X d hd a0 h0  a0 (1000 + 4) (1 : Int32) σ29
  · refine z_aload0 52 105 rfl rfl ?_
    refine z_cV0V 53 108 rfl rfl zl_X11_213 F_X11_handLine (zR_rm (by omega)) (c_X11_handLine X d (by omega) a0 σ29) ⟨by decide, rfl, rfl⟩ h0 rfl (Nat.le_of_ble_eq_true rfl) (fun r30 σ31 => ?_)
    refine z_goto 54 266 rfl (by decide) ?_
    exact z_vret 132 rfl rfl
def f_X11_readLine_67 (a0 : Nat) (s0 : Nat) (s1 : Nat) (s2 : Int32) (σ : zS) : Option (Unit × zS) := zck (WM.2 s0 = (11, 0)) (zbd (f_X11_begins s0 s1 s2 σ) (fun r33 σ34 => zbr (r33 = 0) (zck (zok 100 (WM.2 (σ34.2 a0 16)) (3 : Int32)) (zbr ((4 : Int32) ≤ (σ34.1 (σ34.2 a0 16) (3 : Int32).toNatClampNeg)) (f_X11_readLine_98 a0 a0 (1000 + 3) (0 : Int32) σ34) (f_X11_readLine_98 a0 a0 (1000 + 3) (1 : Int32) σ34))) (zbd (f_X11_overLine a0 σ34) (fun r35 σ36 => some ((), σ36)))))
theorem t_X11_readLine_67 (X : zX) (d : Nat) (hd : 13 ≤ d + 1) (a0 : Nat) (h0 : WM.2 a0 = (11, 0)) (s0 : Nat) (s1 : Nat) (s2 : Int32) (σ : zS) : zK X WM (zrm (d + 1)) M_X11_readLine (zZ X WM zeV) 67 [some (.ref a0)] [.int s2, .ref s1, .ref s0] σ (f_X11_readLine_67 a0 s0 s1 s2 σ) := by
  unfold f_X11_readLine_67
  refine z_ck (fun h32 => ?_)
  refine z_cV2I 34 70 rfl rfl zl_X11_203 F_X11_begins (zR_rm (by omega)) (c_X11_begins X d (by omega) s0 s1 s2 σ) ⟨by decide, rfl, rfl⟩ h32 rfl (Nat.le_of_ble_eq_true rfl) (fun r33 σ34 => ?_)
  refine z_if_eq 35 73 80 rfl rfl (by decide) ?_ ?_
  · refine z_aload0 39 81 rfl rfl ?_
    refine z_ldcS 40 83 3 rfl rfl (tx := "hand") (List.mem_of_getElem? (i := 22) rfl) ?_
    refine z_aload0 41 84 rfl rfl ?_
    refine z_getR 42 87 16 rfl rfl zf_X11_23 rfl h0 ?_
    refine z_iconst 43 88 rfl rfl ci_3 ?_
    refine z_iald 44 89 rfl rfl ?_
    refine z_iconst 45 90 rfl rfl ci_4 ?_
    refine z_icmp_ge 46 93 97 rfl rfl (by decide) ?_ ?_
    · refine z_iconst 49 98 rfl rfl ci_0 ?_
      exact t_X11_readLine_98 X d hd a0 h0  a0 (1000 + 3) (0 : Int32) σ34
    · refine z_iconst 47 94 rfl rfl ci_1 ?_
      refine z_goto 48 98 rfl (by decide) ?_
      exact t_X11_readLine_98 X d hd a0 h0  a0 (1000 + 3) (1 : Int32) σ34
  · refine z_aload0 36 74 rfl rfl ?_
    refine z_cV0V 37 77 rfl rfl zl_X11_210 F_X11_overLine (zR_rm (by omega)) (c_X11_overLine X d (by omega) a0 σ34) ⟨by decide, rfl, rfl⟩ h0 rfl (Nat.le_of_ble_eq_true rfl) (fun r35 σ36 => ?_)
    refine z_goto 38 266 rfl (by decide) ?_
    exact z_vret 132 rfl rfl
def f_X11_readLine_35 (a0 : Nat) (s0 : Nat) (s1 : Nat) (s2 : Int32) (σ : zS) : Option (Unit × zS) := zck (WM.2 s0 = (11, 0)) (zbd (f_X11_begins s0 s1 s2 σ) (fun r38 σ39 => zbr (r38 = 0) (zck (zok 100 (WM.2 (σ39.2 a0 16)) (2 : Int32)) (zbr ((6 : Int32) ≤ (σ39.1 (σ39.2 a0 16) (2 : Int32).toNatClampNeg)) (f_X11_readLine_67 a0 a0 (1000 + 2) (0 : Int32) σ39) (f_X11_readLine_67 a0 a0 (1000 + 2) (1 : Int32) σ39))) (zbd (f_X11_placeLine a0 σ39) (fun r40 σ41 => some ((), σ41)))))
theorem t_X11_readLine_35 (X : zX) (d : Nat) (hd : 13 ≤ d + 1) (a0 : Nat) (h0 : WM.2 a0 = (11, 0)) (s0 : Nat) (s1 : Nat) (s2 : Int32) (σ : zS) : zK X WM (zrm (d + 1)) M_X11_readLine (zZ X WM zeV) 35 [some (.ref a0)] [.int s2, .ref s1, .ref s0] σ (f_X11_readLine_35 a0 s0 s1 s2 σ) := by
  unfold f_X11_readLine_35
  refine z_ck (fun h37 => ?_)
  refine z_cV2I 18 38 rfl rfl zl_X11_203 F_X11_begins (zR_rm (by omega)) (c_X11_begins X d (by omega) s0 s1 s2 σ) ⟨by decide, rfl, rfl⟩ h37 rfl (Nat.le_of_ble_eq_true rfl) (fun r38 σ39 => ?_)
  refine z_if_eq 19 41 48 rfl rfl (by decide) ?_ ?_
  · refine z_aload0 23 49 rfl rfl ?_
    refine z_ldcS 24 51 2 rfl rfl (tx := "ove\x72") (List.mem_of_getElem? (i := 21) rfl) ?_
    refine z_aload0 25 52 rfl rfl ?_
    refine z_getR 26 55 16 rfl rfl zf_X11_23 rfl h0 ?_
    refine z_iconst 27 56 rfl rfl ci_2 ?_
    refine z_iald 28 57 rfl rfl ?_
    refine z_bipush 29 59 rfl rfl cb_6 ?_
    refine z_icmp_ge 30 62 66 rfl rfl (by decide) ?_ ?_
    · refine z_iconst 33 67 rfl rfl ci_0 ?_
      exact t_X11_readLine_67 X d hd a0 h0  a0 (1000 + 2) (0 : Int32) σ39
    · refine z_iconst 31 63 rfl rfl ci_1 ?_
      refine z_goto 32 67 rfl (by decide) ?_
      exact t_X11_readLine_67 X d hd a0 h0  a0 (1000 + 2) (1 : Int32) σ39
  · refine z_aload0 20 42 rfl rfl ?_
    refine z_cV0V 21 45 rfl rfl zl_X11_207 F_X11_placeLine (zR_rm (by omega)) (c_X11_placeLine X d (by omega) a0 σ39) ⟨by decide, rfl, rfl⟩ h0 rfl (Nat.le_of_ble_eq_true rfl) (fun r40 σ41 => ?_)
    refine z_goto 22 266 rfl (by decide) ?_
    exact z_vret 132 rfl rfl
def f_X11_readLine (a0 : Nat) (σ : zS) : Option (Unit × zS) := zck (WM.2 a0 = (11, 0)) (zbd (f_X11_isWord a0 (1000 + 0) σ) (fun r42 σ43 => zbr (r42 = 0) (zck (zok 100 (WM.2 (σ43.2 a0 16)) (1 : Int32)) (zbr ((6 : Int32) ≤ (σ43.1 (σ43.2 a0 16) (1 : Int32).toNatClampNeg)) (f_X11_readLine_35 a0 a0 (1000 + 1) (0 : Int32) σ43) (f_X11_readLine_35 a0 a0 (1000 + 1) (1 : Int32) σ43))) (zbd (f_X11_letterLine a0 σ43) (fun r44 σ45 => some ((), σ45)))))
theorem c_X11_readLine (X : zX) (d : Nat) (hd : 13 ≤ d) (a0 : Nat) (σ : zS) : ∀ (r : Unit) (σ' : zS), f_X11_readLine a0 σ = some (r, σ') → zCN X WM d M_X11_readLine [.ref a0] σ (zeV r, σ') := by
  obtain ⟨d, rfl⟩ : ∃ e, d = e + 1 := ⟨d - 1, by omega⟩
  refine z_entry [.ref a0] (by decide +kernel) T_X11_readLine (Nat.le_of_ble_eq_true rfl) ?_
  show zK X WM (zrm (d + 1)) M_X11_readLine (zZ X WM zeV) 0 [some (.ref a0)] [] σ (f_X11_readLine a0 σ)
  unfold f_X11_readLine
  refine z_ck (fun h0 => ?_)
  refine z_aload0 0 1 rfl rfl ?_
  refine z_ldcS 1 3 0 rfl rfl (tx := "lette\x72") (List.mem_of_getElem? (i := 18) rfl) ?_
  refine z_cV1I 2 6 rfl rfl zl_X11_120 F_X11_isWord (zR_rm (by omega)) (c_X11_isWord X d (by omega) a0 (1000 + 0) σ) ⟨by decide, rfl, rfl⟩ h0 rfl (Nat.le_of_ble_eq_true rfl) (fun r42 σ43 => ?_)
  refine z_if_eq 3 9 16 rfl rfl (by decide) ?_ ?_
  · refine z_aload0 7 17 rfl rfl ?_
    refine z_ldcS 8 19 1 rfl rfl (tx := "place") (List.mem_of_getElem? (i := 20) rfl) ?_
    refine z_aload0 9 20 rfl rfl ?_
    refine z_getR 10 23 16 rfl rfl zf_X11_23 rfl h0 ?_
    refine z_iconst 11 24 rfl rfl ci_1 ?_
    refine z_iald 12 25 rfl rfl ?_
    refine z_bipush 13 27 rfl rfl cb_6 ?_
    refine z_icmp_ge 14 30 34 rfl rfl (by decide) ?_ ?_
    · refine z_iconst 17 35 rfl rfl ci_0 ?_
      exact t_X11_readLine_35 X d hd a0 h0  a0 (1000 + 1) (0 : Int32) σ43
    · refine z_iconst 15 31 rfl rfl ci_1 ?_
      refine z_goto 16 35 rfl (by decide) ?_
      exact t_X11_readLine_35 X d hd a0 h0  a0 (1000 + 1) (1 : Int32) σ43
  · refine z_aload0 4 10 rfl rfl ?_
    refine z_cV0V 5 13 rfl rfl zl_X11_200 F_X11_letterLine (zR_rm (by omega)) (c_X11_letterLine X d (by omega) a0 σ43) ⟨by decide, rfl, rfl⟩ h0 rfl (Nat.le_of_ble_eq_true rfl) (fun r44 σ45 => ?_)
    refine z_goto 6 266 rfl (by decide) ?_
    exact z_vret 132 rfl rfl
def f_X11_letter_184 (a0 : Nat)  (σ : zS) : Option (Int32 × zS) := zbr ((σ.1 a0 13) = 0) (zbd (f_X11_copy (σ.2 a0 16) (0 : Int32) (σ.2 a0 15) (0 : Int32) (195 : Int32) σ) (fun r1 σ2 => zbd (f_X11_copy (σ2.2 a0 18) (0 : Int32) (σ2.2 a0 17) (0 : Int32) (50 : Int32) σ2) (fun r3 σ4 => zbd (f_X11_copy (σ4.2 a0 18) (0 : Int32) (σ4.2 a0 19) (0 : Int32) (50 : Int32) σ4) (fun r5 σ6 => zck (zb (1 : Int32)) (zlt (zpi σ6 a0 14 (1 : Int32)) (fun σ7 => zlt (zpi σ7 a0 22 (0 : Int32)) (fun σ8 => zlt (zpi σ8 a0 23 (0 : Int32)) (fun σ9 => zck (zok 100 (WM.2 (σ9.2 a0 15)) (1 : Int32)) (some ((σ9.1 (σ9.2 a0 15) (1 : Int32).toNatClampNeg), σ9)))))))))) (zbd (f_X11_no a0 (4 : Int32) σ) (fun r10 σ11 => some (r10, σ11)))
theorem t_X11_letter_184 (X : zX) (d : Nat) (hd : 14 ≤ d + 1) (a0 : Nat) (h0 : WM.2 a0 = (11, 0))  (σ : zS) : zK X WM (zrm (d + 1)) M_X11_letter (zZ X WM zeI) 184 [some (.ref a0), none, none] [] σ (f_X11_letter_184 a0 σ) := by
  unfold f_X11_letter_184
  refine z_aload0 96 185 rfl rfl ?_
  refine z_getI 97 188 13 rfl rfl zf_X11_103 rfl h0 ?_
  refine z_if_eq 98 191 197 rfl rfl (by decide) ?_ ?_
  · refine z_aload0 103 198 rfl rfl ?_
    refine z_getR 104 201 16 rfl rfl zf_X11_23 rfl h0 ?_
    refine z_iconst 105 202 rfl rfl ci_0 ?_
    refine z_aload0 106 203 rfl rfl ?_
    refine z_getR 107 206 15 rfl rfl zf_X11_20 rfl h0 ?_
    refine z_iconst 108 207 rfl rfl ci_0 ?_
    refine z_sipush 109 210 rfl rfl cs_195 ?_
    refine z_cS5V 110 213 rfl rfl zl_X11_187 F_X11_copy (zR_rm (by omega)) (c_X11_copy X d (σ.2 a0 16) (0 : Int32) (σ.2 a0 15) (0 : Int32) (195 : Int32) σ) rfl (Nat.le_of_ble_eq_true rfl) (fun r1 σ2 => ?_)
    refine z_aload0 111 214 rfl rfl ?_
    refine z_getR 112 217 18 rfl rfl zf_X11_29 rfl h0 ?_
    refine z_iconst 113 218 rfl rfl ci_0 ?_
    refine z_aload0 114 219 rfl rfl ?_
    refine z_getR 115 222 17 rfl rfl zf_X11_26 rfl h0 ?_
    refine z_iconst 116 223 rfl rfl ci_0 ?_
    refine z_bipush 117 225 rfl rfl cb_50 ?_
    refine z_cS5V 118 228 rfl rfl zl_X11_187 F_X11_copy (zR_rm (by omega)) (c_X11_copy X d (σ2.2 a0 18) (0 : Int32) (σ2.2 a0 17) (0 : Int32) (50 : Int32) σ2) rfl (Nat.le_of_ble_eq_true rfl) (fun r3 σ4 => ?_)
    refine z_aload0 119 229 rfl rfl ?_
    refine z_getR 120 232 18 rfl rfl zf_X11_29 rfl h0 ?_
    refine z_iconst 121 233 rfl rfl ci_0 ?_
    refine z_aload0 122 234 rfl rfl ?_
    refine z_getR 123 237 19 rfl rfl zf_X11_32 rfl h0 ?_
    refine z_iconst 124 238 rfl rfl ci_0 ?_
    refine z_bipush 125 240 rfl rfl cb_50 ?_
    refine z_cS5V 126 243 rfl rfl zl_X11_187 F_X11_copy (zR_rm (by omega)) (c_X11_copy X d (σ4.2 a0 18) (0 : Int32) (σ4.2 a0 19) (0 : Int32) (50 : Int32) σ4) rfl (Nat.le_of_ble_eq_true rfl) (fun r5 σ6 => ?_)
    refine z_aload0 127 244 rfl rfl ?_
    refine z_iconst 128 245 rfl rfl ci_1 ?_
    refine z_putZ 129 248 14 rfl rfl zf_X11_191 rfl rfl rfl h0 (fun σ7 => ?_)
    refine z_aload0 130 249 rfl rfl ?_
    refine z_iconst 131 250 rfl rfl ci_0 ?_
    refine z_putI 132 253 22 rfl rfl zf_X11_194 rfl rfl rfl h0 (fun σ8 => ?_)
    refine z_aload0 133 254 rfl rfl ?_
    refine z_iconst 134 255 rfl rfl ci_0 ?_
    refine z_putI 135 258 23 rfl rfl zf_X11_197 rfl rfl rfl h0 (fun σ9 => ?_)
    refine z_aload0 136 259 rfl rfl ?_
    refine z_getR 137 262 15 rfl rfl zf_X11_20 rfl h0 ?_
    refine z_iconst 138 263 rfl rfl ci_1 ?_
    refine z_iald 139 264 rfl rfl ?_
    exact z_iret 140 rfl rfl
  · refine z_aload0 99 192 rfl rfl ?_
    refine z_iconst 100 193 rfl rfl ci_4 ?_
    refine z_cV1I 101 196 rfl rfl zl_X11_181 F_X11_no (zR_rm (by omega)) (c_X11_no X d a0 (4 : Int32) σ) ⟨by decide, rfl, rfl⟩ h0 rfl (Nat.le_of_ble_eq_true rfl) (fun r10 σ11 => ?_)
    exact z_iret 102 rfl rfl
def f_X11_letter_174 (a0 : Nat)  (σ : zS) : Option (Int32 × zS) := zbd (f_X11_wrong a0 (6 : Int32) (σ.1 a0 4) σ) (fun r12 σ13 => f_X11_letter_184 a0 σ13)
theorem t_X11_letter_174 (X : zX) (d : Nat) (hd : 14 ≤ d + 1) (a0 : Nat) (h0 : WM.2 a0 = (11, 0))  (σ : zS) : zK X WM (zrm (d + 1)) M_X11_letter (zZ X WM zeI) 174 [some (.ref a0), none, none] [] σ (f_X11_letter_174 a0 σ) := by
  unfold f_X11_letter_174
  refine z_aload0 91 175 rfl rfl ?_
  refine z_bipush 92 177 rfl rfl cb_6 ?_
  refine z_aload0 93 178 rfl rfl ?_
  refine z_getI 94 181 4 rfl rfl zf_X11_84 rfl h0 ?_
  refine z_cV2V 95 184 rfl rfl zl_X11_130 F_X11_wrong (zR_rm (by omega)) (c_X11_wrong X d a0 (6 : Int32) (σ.1 a0 4) σ) ⟨by decide, rfl, rfl⟩ h0 rfl (Nat.le_of_ble_eq_true rfl) (fun r12 σ13 => ?_)
  exact t_X11_letter_184 X d hd a0 h0  σ13
def f_X11_letter_148 (a0 : Nat)  (σ : zS) : Option (Int32 × zS) := zbr ((σ.1 a0 13) = 0) (zck (zok 100 (WM.2 (σ.2 a0 16)) (9 : Int32)) (zbr ((σ.1 (σ.2 a0 16) (9 : Int32).toNatClampNeg) = 0) (f_X11_letter_174 a0 σ) (zck (zok 100 (WM.2 (σ.2 a0 16)) (1 : Int32)) (zbr ((σ.1 (σ.2 a0 16) (1 : Int32).toNatClampNeg) = 0) (f_X11_letter_174 a0 σ) (f_X11_letter_184 a0 σ))))) (f_X11_letter_184 a0 σ)
theorem t_X11_letter_148 (X : zX) (d : Nat) (hd : 14 ≤ d + 1) (a0 : Nat) (h0 : WM.2 a0 = (11, 0))  (σ : zS) : zK X WM (zrm (d + 1)) M_X11_letter (zZ X WM zeI) 148 [some (.ref a0), none, none] [] σ (f_X11_letter_148 a0 σ) := by
  unfold f_X11_letter_148
  refine z_aload0 78 149 rfl rfl ?_
  refine z_getI 79 152 13 rfl rfl zf_X11_103 rfl h0 ?_
  refine z_if_ne 80 155 184 rfl rfl (by decide) ?_ ?_
  · refine z_aload0 81 156 rfl rfl ?_
    refine z_getR 82 159 16 rfl rfl zf_X11_23 rfl h0 ?_
    refine z_bipush 83 161 rfl rfl cb_9 ?_
    refine z_iald 84 162 rfl rfl ?_
    refine z_if_eq 85 165 174 rfl rfl (by decide) ?_ ?_
    · exact t_X11_letter_174 X d hd a0 h0  σ
    · refine z_aload0 86 166 rfl rfl ?_
      refine z_getR 87 169 16 rfl rfl zf_X11_23 rfl h0 ?_
      refine z_iconst 88 170 rfl rfl ci_1 ?_
      refine z_iald 89 171 rfl rfl ?_
      refine z_if_ne 90 174 184 rfl rfl (by decide) ?_ ?_
      · exact t_X11_letter_174 X d hd a0 h0  σ
      · exact t_X11_letter_184 X d hd a0 h0  σ
  · exact t_X11_letter_184 X d hd a0 h0  σ
def f_X11_letter_125 (a0 : Nat)  (σ : zS) : Option (Int32 × zS) := zbr ((σ.1 a0 13) = 0) (zbr ((σ.1 a0 6) = 0) (f_X11_letter_148 a0 σ) (zbd (f_X11_wrong a0 (1 : Int32) (σ.1 a0 4) σ) (fun r14 σ15 => f_X11_letter_148 a0 σ15))) (f_X11_letter_148 a0 σ)
theorem t_X11_letter_125 (X : zX) (d : Nat) (hd : 14 ≤ d + 1) (a0 : Nat) (h0 : WM.2 a0 = (11, 0))  (σ : zS) : zK X WM (zrm (d + 1)) M_X11_letter (zZ X WM zeI) 125 [some (.ref a0), none, none] [] σ (f_X11_letter_125 a0 σ) := by
  unfold f_X11_letter_125
  refine z_aload0 67 126 rfl rfl ?_
  refine z_getI 68 129 13 rfl rfl zf_X11_103 rfl h0 ?_
  refine z_if_ne 69 132 148 rfl rfl (by decide) ?_ ?_
  · refine z_aload0 70 133 rfl rfl ?_
    refine z_getI 71 136 6 rfl rfl zf_X11_93 rfl h0 ?_
    refine z_if_eq 72 139 148 rfl rfl (by decide) ?_ ?_
    · exact t_X11_letter_148 X d hd a0 h0  σ
    · refine z_aload0 73 140 rfl rfl ?_
      refine z_iconst 74 141 rfl rfl ci_1 ?_
      refine z_aload0 75 142 rfl rfl ?_
      refine z_getI 76 145 4 rfl rfl zf_X11_84 rfl h0 ?_
      refine z_cV2V 77 148 rfl rfl zl_X11_130 F_X11_wrong (zR_rm (by omega)) (c_X11_wrong X d a0 (1 : Int32) (σ.1 a0 4) σ) ⟨by decide, rfl, rfl⟩ h0 rfl (Nat.le_of_ble_eq_true rfl) (fun r14 σ15 => ?_)
      exact t_X11_letter_148 X d hd a0 h0  σ15
  · exact t_X11_letter_148 X d hd a0 h0  σ
def f_X11_letter_98 (a0 : Nat) : Nat → zS → Option (Int32 × zS)
  | 0, _ => none
  | n + 1, σ => zbr ((σ.1 a0 13) = 0) (zbr ((σ.1 a0 6) = (59 : Int32)) (zbd (f_X11_next a0 σ) (fun r16 σ17 => zbd (f_X11_readLine a0 σ17) (fun r18 σ19 => f_X11_letter_98 a0 n σ19))) (f_X11_letter_125 a0 σ)) (f_X11_letter_125 a0 σ)
theorem t_X11_letter_98 (X : zX) (d : Nat) (hd : 14 ≤ d + 1) (a0 : Nat) (h0 : WM.2 a0 = (11, 0)) : ∀ (n : Nat)  (σ : zS), zK X WM (zrm (d + 1)) M_X11_letter (zZ X WM zeI) 98 [some (.ref a0), none, none] [] σ (f_X11_letter_98 a0 n σ) := by
  intro n
  induction n with
  | zero => intro σ; exact z_none
  | succ n ih =>
    intro σ
    rw [f_X11_letter_98]
    refine z_aload0 55 99 rfl rfl ?_
    refine z_getI 56 102 13 rfl rfl zf_X11_103 rfl h0 ?_
    refine z_if_ne 57 105 125 rfl rfl (by decide) ?_ ?_
    · refine z_aload0 58 106 rfl rfl ?_
      refine z_getI 59 109 6 rfl rfl zf_X11_93 rfl h0 ?_
      refine z_bipush 60 111 rfl rfl cb_59 ?_
      refine z_icmp_ne 61 114 125 rfl rfl (by decide) ?_ ?_
      · refine z_aload0 62 115 rfl rfl ?_
        refine z_cV0V 63 118 rfl rfl zl_X11_124 F_X11_next (zR_rm (by omega)) (c_X11_next X d (by omega) a0 σ) ⟨by decide, rfl, rfl⟩ h0 rfl (Nat.le_of_ble_eq_true rfl) (fun r16 σ17 => ?_)
        refine z_aload0 64 119 rfl rfl ?_
        refine z_cV0V 65 122 rfl rfl zl_X11_184 F_X11_readLine (zR_rm (by omega)) (c_X11_readLine X d (by omega) a0 σ17) ⟨by decide, rfl, rfl⟩ h0 rfl (Nat.le_of_ble_eq_true rfl) (fun r18 σ19 => ?_)
        refine z_goto 66 98 rfl (by decide) ?_
        exact ih σ19
      · exact t_X11_letter_125 X d hd a0 h0  σ
    · exact t_X11_letter_125 X d hd a0 h0  σ
def f_X11_letter_61 (a0 : Nat) : Nat → Int32 → Int32 → zS → Option (Int32 × zS)
  | 0, _, _, _ => none
  | n + 1, x1, x2, σ => zbr ((50 : Int32) ≤ x2) (zlt (zpi σ a0 3 x1) (fun σ20 => zlt (zpi σ20 a0 5 (0 : Int32)) (fun σ21 => zbd (f_X11_next a0 σ21) (fun r22 σ23 => zbd (f_X11_readLine a0 σ23) (fun r24 σ25 => f_X11_letter_98 a0 FU σ25))))) (zck (zok 100 (WM.2 (σ.2 a0 18)) x2) (zlt (zpi σ (σ.2 a0 18) x2.toNatClampNeg (0 : Int32)) (fun σ26 => zlt (x2 + (1 : Int32)) (fun v27 => f_X11_letter_61 a0 n x1 v27 σ26))))
theorem t_X11_letter_61 (X : zX) (d : Nat) (hd : 14 ≤ d + 1) (a0 : Nat) (h0 : WM.2 a0 = (11, 0)) : ∀ (n : Nat) (x1 : Int32) (x2 : Int32) (σ : zS), zK X WM (zrm (d + 1)) M_X11_letter (zZ X WM zeI) 61 [some (.ref a0), some (.int x1), some (.int x2)] [] σ (f_X11_letter_61 a0 n x1 x2 σ) := by
  intro n
  induction n with
  | zero => intro x1 x2 σ; exact z_none
  | succ n ih =>
    intro x1 x2 σ
    rw [f_X11_letter_61]
    refine z_iload2 35 62 rfl rfl ?_
    refine z_bipush 36 64 rfl rfl cb_50 ?_
    refine z_icmp_ge 37 67 80 rfl rfl (by decide) ?_ ?_
    · refine z_aload0 45 81 rfl rfl ?_
      refine z_iload1 46 82 rfl rfl ?_
      refine z_putI 47 85 3 rfl rfl zf_X11_74 rfl rfl rfl h0 (fun σ20 => ?_)
      refine z_aload0 48 86 rfl rfl ?_
      refine z_iconst 49 87 rfl rfl ci_0 ?_
      refine z_putI 50 90 5 rfl rfl zf_X11_77 rfl rfl rfl h0 (fun σ21 => ?_)
      refine z_aload0 51 91 rfl rfl ?_
      refine z_cV0V 52 94 rfl rfl zl_X11_124 F_X11_next (zR_rm (by omega)) (c_X11_next X d (by omega) a0 σ21) ⟨by decide, rfl, rfl⟩ h0 rfl (Nat.le_of_ble_eq_true rfl) (fun r22 σ23 => ?_)
      refine z_aload0 53 95 rfl rfl ?_
      refine z_cV0V 54 98 rfl rfl zl_X11_184 F_X11_readLine (zR_rm (by omega)) (c_X11_readLine X d (by omega) a0 σ23) ⟨by decide, rfl, rfl⟩ h0 rfl (Nat.le_of_ble_eq_true rfl) (fun r24 σ25 => ?_)
      exact z_wk (zle_e (zle_n (zle_n zle_0))) (t_X11_letter_98 X d hd a0 h0  FU σ25)
    · refine z_aload0 38 68 rfl rfl ?_
      refine z_getR 39 71 18 rfl rfl zf_X11_29 rfl h0 ?_
      refine z_iload2 40 72 rfl rfl ?_
      refine z_iconst 41 73 rfl rfl ci_0 ?_
      refine z_iast 42 74 rfl rfl (fun σ26 => ?_)
      refine z_iinc2 43 77 rfl rfl ci_1 rfl (fun v27 => ?_)
      refine z_goto 44 61 rfl (by decide) ?_
      exact ih x1 v27 σ26
def f_X11_letter_39 (a0 : Nat) : Nat → Int32 → Int32 → zS → Option (Int32 × zS)
  | 0, _, _, _ => none
  | n + 1, x1, x2, σ => zbr ((195 : Int32) ≤ x2) (zlt (0 : Int32) (fun v28 => f_X11_letter_61 a0 FU x1 v28 σ)) (zck (zok 100 (WM.2 (σ.2 a0 16)) x2) (zlt (zpi σ (σ.2 a0 16) x2.toNatClampNeg (0 : Int32)) (fun σ29 => zlt (x2 + (1 : Int32)) (fun v30 => f_X11_letter_39 a0 n x1 v30 σ29))))
theorem t_X11_letter_39 (X : zX) (d : Nat) (hd : 14 ≤ d + 1) (a0 : Nat) (h0 : WM.2 a0 = (11, 0)) : ∀ (n : Nat) (x1 : Int32) (x2 : Int32) (σ : zS), zK X WM (zrm (d + 1)) M_X11_letter (zZ X WM zeI) 39 [some (.ref a0), some (.int x1), some (.int x2)] [] σ (f_X11_letter_39 a0 n x1 x2 σ) := by
  intro n
  induction n with
  | zero => intro x1 x2 σ; exact z_none
  | succ n ih =>
    intro x1 x2 σ
    rw [f_X11_letter_39]
    refine z_iload2 23 40 rfl rfl ?_
    refine z_sipush 24 43 rfl rfl cs_195 ?_
    refine z_icmp_ge 25 46 59 rfl rfl (by decide) ?_ ?_
    · refine z_iconst 33 60 rfl rfl ci_0 ?_
      refine z_istore2 34 61 rfl rfl rfl (fun v28 => ?_)
      exact t_X11_letter_61 X d hd a0 h0  FU x1 v28 σ
    · refine z_aload0 26 47 rfl rfl ?_
      refine z_getR 27 50 16 rfl rfl zf_X11_23 rfl h0 ?_
      refine z_iload2 28 51 rfl rfl ?_
      refine z_iconst 29 52 rfl rfl ci_0 ?_
      refine z_iast 30 53 rfl rfl (fun σ29 => ?_)
      refine z_iinc2 31 56 rfl rfl ci_1 rfl (fun v30 => ?_)
      refine z_goto 32 39 rfl (by decide) ?_
      exact ih x1 v30 σ29
def f_X11_letter (a0 : Nat) (x1 : Int32) (σ : zS) : Option (Int32 × zS) := zck (WM.2 a0 = (11, 0)) (zbd (f_X11_good a0 σ) (fun r31 σ32 => zbd (f_X11_in x1 (0 : Int32) (σ32.1 a0 2) σ32) (fun r33 σ34 => zbr (r33 = 0) (zbd (f_X11_no a0 (2 : Int32) σ34) (fun r35 σ36 => some (r35, σ36))) (zlt (zpi σ34 a0 2 (0 : Int32)) (fun σ37 => zlt (zpi σ37 a0 9 (0 : Int32)) (fun σ38 => zck (zb (0 : Int32)) (zlt (zpi σ38 a0 13 (0 : Int32)) (fun σ39 => zlt (0 : Int32) (fun v40 => f_X11_letter_39 a0 FU x1 v40 σ39)))))))))
theorem c_X11_letter (X : zX) (d : Nat) (hd : 14 ≤ d) (a0 : Nat) (x1 : Int32) (σ : zS) : ∀ (r : Int32) (σ' : zS), f_X11_letter a0 x1 σ = some (r, σ') → zCN X WM d M_X11_letter [.ref a0, .int x1] σ (zeI r, σ') := by
  obtain ⟨d, rfl⟩ : ∃ e, d = e + 1 := ⟨d - 1, by omega⟩
  refine z_entry [.ref a0, .int x1] (by decide +kernel) T_X11_letter (Nat.le_of_ble_eq_true rfl) ?_
  show zK X WM (zrm (d + 1)) M_X11_letter (zZ X WM zeI) 0 [some (.ref a0), some (.int x1), none] [] σ (f_X11_letter a0 x1 σ)
  unfold f_X11_letter
  refine z_ck (fun h0 => ?_)
  refine z_aload0 0 1 rfl rfl ?_
  refine z_cV0V 1 4 rfl rfl zl_X11_178 F_X11_good (zR_rm (by omega)) (c_X11_good X d a0 σ) ⟨by decide, rfl, rfl⟩ h0 rfl (Nat.le_of_ble_eq_true rfl) (fun r31 σ32 => ?_)
  refine z_iload1 2 5 rfl rfl ?_
  refine z_iconst 3 6 rfl rfl ci_0 ?_
  refine z_aload0 4 7 rfl rfl ?_
  refine z_getI 5 10 2 rfl rfl zf_X11_71 rfl h0 ?_
  refine z_cS3I 6 13 rfl rfl zl_X11_157 F_X11_in (zR_rm (by omega)) (c_X11_in X d x1 (0 : Int32) (σ32.1 a0 2) σ32) rfl (Nat.le_of_ble_eq_true rfl) (fun r33 σ34 => ?_)
  refine z_if_ne 7 16 22 rfl rfl (by decide) ?_ ?_
  · refine z_aload0 8 17 rfl rfl ?_
    refine z_iconst 9 18 rfl rfl ci_2 ?_
    refine z_cV1I 10 21 rfl rfl zl_X11_181 F_X11_no (zR_rm (by omega)) (c_X11_no X d a0 (2 : Int32) σ34) ⟨by decide, rfl, rfl⟩ h0 rfl (Nat.le_of_ble_eq_true rfl) (fun r35 σ36 => ?_)
    exact z_iret 11 rfl rfl
  · refine z_aload0 12 23 rfl rfl ?_
    refine z_iconst 13 24 rfl rfl ci_0 ?_
    refine z_putI 14 27 2 rfl rfl zf_X11_71 rfl rfl rfl h0 (fun σ37 => ?_)
    refine z_aload0 15 28 rfl rfl ?_
    refine z_iconst 16 29 rfl rfl ci_0 ?_
    refine z_putI 17 32 9 rfl rfl zf_X11_107 rfl rfl rfl h0 (fun σ38 => ?_)
    refine z_aload0 18 33 rfl rfl ?_
    refine z_iconst 19 34 rfl rfl ci_0 ?_
    refine z_putZ 20 37 13 rfl rfl zf_X11_103 rfl rfl rfl h0 (fun σ39 => ?_)
    refine z_iconst 21 38 rfl rfl ci_0 ?_
    refine z_istore2 22 39 rfl rfl rfl (fun v40 => ?_)
    exact t_X11_letter_39 X d hd a0 h0  FU x1 v40 σ39
def f_X11_fault (a0 : Nat) (σ : zS) : Option (Int32 × zS) := zck (WM.2 a0 = (11, 0)) (zlt (zpi σ a0 0 (0 : Int32)) (fun σ1 => some ((σ1.1 a0 9), σ1)))
theorem c_X11_fault (X : zX) (d : Nat) (a0 : Nat) (σ : zS) : ∀ (r : Int32) (σ' : zS), f_X11_fault a0 σ = some (r, σ') → zCN X WM d M_X11_fault [.ref a0] σ (zeI r, σ') := by
  refine z_entry [.ref a0] (by decide +kernel) T_X11_fault (Nat.le_of_ble_eq_true rfl) ?_
  show zK X WM (zrm d) M_X11_fault (zZ X WM zeI) 0 [some (.ref a0)] [] σ (f_X11_fault a0 σ)
  unfold f_X11_fault
  refine z_ck (fun h0 => ?_)
  refine z_aload0 0 1 rfl rfl ?_
  refine z_iconst 1 2 rfl rfl ci_0 ?_
  refine z_putI 2 5 0 rfl rfl zf_X11_65 rfl rfl rfl h0 (fun σ1 => ?_)
  refine z_aload0 3 6 rfl rfl ?_
  refine z_getI 4 9 9 rfl rfl zf_X11_107 rfl h0 ?_
  exact z_iret 5 rfl rfl
def f_X11_where (a0 : Nat) (σ : zS) : Option (Int32 × zS) := zck (WM.2 a0 = (11, 0)) (zlt (zpi σ a0 0 (0 : Int32)) (fun σ1 => zbr ((σ1.1 a0 11) = (4 : Int32)) (some ((σ1.1 a0 10), σ1)) (some ((-1 : Int32), σ1))))
theorem c_X11_where (X : zX) (d : Nat) (a0 : Nat) (σ : zS) : ∀ (r : Int32) (σ' : zS), f_X11_where a0 σ = some (r, σ') → zCN X WM d M_X11_where [.ref a0] σ (zeI r, σ') := by
  refine z_entry [.ref a0] (by decide +kernel) T_X11_where (Nat.le_of_ble_eq_true rfl) ?_
  show zK X WM (zrm d) M_X11_where (zZ X WM zeI) 0 [some (.ref a0)] [] σ (f_X11_where a0 σ)
  unfold f_X11_where
  refine z_ck (fun h0 => ?_)
  refine z_aload0 0 1 rfl rfl ?_
  refine z_iconst 1 2 rfl rfl ci_0 ?_
  refine z_putI 2 5 0 rfl rfl zf_X11_65 rfl rfl rfl h0 (fun σ1 => ?_)
  refine z_aload0 3 6 rfl rfl ?_
  refine z_getI 4 9 11 rfl rfl zf_X11_68 rfl h0 ?_
  refine z_iconst 5 10 rfl rfl ci_4 ?_
  refine z_icmp_ne 6 13 20 rfl rfl (by decide) ?_ ?_
  · refine z_aload0 7 14 rfl rfl ?_
    refine z_getI 8 17 10 rfl rfl zf_X11_13 rfl h0 ?_
    refine z_goto 9 21 rfl (by decide) ?_
    exact z_iret 11 rfl rfl
  · refine z_iconst 10 21 rfl rfl ci_m1 ?_
    exact z_iret 11 rfl rfl
def f_X11_isPlace (a0 : Nat) (x1 : Int32) (σ : zS) : Option (Int32 × zS) := zck (WM.2 a0 = (11, 0)) (zbr ((σ.1 a0 14) = 0) (zck (zb (0 : Int32)) (some ((0 : Int32), σ))) (zck (zok 100 (WM.2 (σ.2 a0 15)) (1 : Int32)) (zbd (f_X11_in x1 (0 : Int32) ((σ.1 (σ.2 a0 15) (1 : Int32).toNatClampNeg) - (1 : Int32)) σ) (fun r1 σ2 => zbr (r1 = 0) (zck (zb (0 : Int32)) (some ((0 : Int32), σ2))) (zck (zb (1 : Int32)) (some ((1 : Int32), σ2)))))))
theorem c_X11_isPlace (X : zX) (d : Nat) (hd : 1 ≤ d) (a0 : Nat) (x1 : Int32) (σ : zS) : ∀ (r : Int32) (σ' : zS), f_X11_isPlace a0 x1 σ = some (r, σ') → zCN X WM d M_X11_isPlace [.ref a0, .int x1] σ (zeI r, σ') := by
  obtain ⟨d, rfl⟩ : ∃ e, d = e + 1 := ⟨d - 1, by omega⟩
  refine z_entry [.ref a0, .int x1] (by decide +kernel) T_X11_isPlace (Nat.le_of_ble_eq_true rfl) ?_
  show zK X WM (zrm (d + 1)) M_X11_isPlace (zZ X WM zeI) 0 [some (.ref a0), some (.int x1)] [] σ (f_X11_isPlace a0 x1 σ)
  unfold f_X11_isPlace
  refine z_ck (fun h0 => ?_)
  refine z_aload0 0 1 rfl rfl ?_
  refine z_getI 1 4 14 rfl rfl zf_X11_191 rfl h0 ?_
  refine z_if_eq 2 7 27 rfl rfl (by decide) ?_ ?_
  · refine z_iconst 15 28 rfl rfl ci_0 ?_
    exact z_zret 16 rfl rfl
  · refine z_iload1 3 8 rfl rfl ?_
    refine z_iconst 4 9 rfl rfl ci_0 ?_
    refine z_aload0 5 10 rfl rfl ?_
    refine z_getR 6 13 15 rfl rfl zf_X11_20 rfl h0 ?_
    refine z_iconst 7 14 rfl rfl ci_1 ?_
    refine z_iald 8 15 rfl rfl ?_
    refine z_iconst 9 16 rfl rfl ci_1 ?_
    refine z_isub 10 17 rfl rfl ?_
    refine z_cS3I 11 20 rfl rfl zl_X11_157 F_X11_in (zR_rm (by omega)) (c_X11_in X d x1 (0 : Int32) ((σ.1 (σ.2 a0 15) (1 : Int32).toNatClampNeg) - (1 : Int32)) σ) rfl (Nat.le_of_ble_eq_true rfl) (fun r1 σ2 => ?_)
    refine z_if_eq 12 23 27 rfl rfl (by decide) ?_ ?_
    · refine z_iconst 15 28 rfl rfl ci_0 ?_
      exact z_zret 16 rfl rfl
    · refine z_iconst 13 24 rfl rfl ci_1 ?_
      refine z_goto 14 28 rfl (by decide) ?_
      exact z_zret 16 rfl rfl
def f_X11_isMatter (a0 : Nat) (x1 : Int32) (σ : zS) : Option (Int32 × zS) := zck (WM.2 a0 = (11, 0)) (zbr ((σ.1 a0 14) = 0) (zck (zb (0 : Int32)) (some ((0 : Int32), σ))) (zck (zok 100 (WM.2 (σ.2 a0 15)) (4 : Int32)) (zbd (f_X11_in x1 (0 : Int32) ((σ.1 (σ.2 a0 15) (4 : Int32).toNatClampNeg) - (1 : Int32)) σ) (fun r1 σ2 => zbr (r1 = 0) (zck (zb (0 : Int32)) (some ((0 : Int32), σ2))) (zck (zb (1 : Int32)) (some ((1 : Int32), σ2)))))))
theorem c_X11_isMatter (X : zX) (d : Nat) (hd : 1 ≤ d) (a0 : Nat) (x1 : Int32) (σ : zS) : ∀ (r : Int32) (σ' : zS), f_X11_isMatter a0 x1 σ = some (r, σ') → zCN X WM d M_X11_isMatter [.ref a0, .int x1] σ (zeI r, σ') := by
  obtain ⟨d, rfl⟩ : ∃ e, d = e + 1 := ⟨d - 1, by omega⟩
  refine z_entry [.ref a0, .int x1] (by decide +kernel) T_X11_isMatter (Nat.le_of_ble_eq_true rfl) ?_
  show zK X WM (zrm (d + 1)) M_X11_isMatter (zZ X WM zeI) 0 [some (.ref a0), some (.int x1)] [] σ (f_X11_isMatter a0 x1 σ)
  unfold f_X11_isMatter
  refine z_ck (fun h0 => ?_)
  refine z_aload0 0 1 rfl rfl ?_
  refine z_getI 1 4 14 rfl rfl zf_X11_191 rfl h0 ?_
  refine z_if_eq 2 7 27 rfl rfl (by decide) ?_ ?_
  · refine z_iconst 15 28 rfl rfl ci_0 ?_
    exact z_zret 16 rfl rfl
  · refine z_iload1 3 8 rfl rfl ?_
    refine z_iconst 4 9 rfl rfl ci_0 ?_
    refine z_aload0 5 10 rfl rfl ?_
    refine z_getR 6 13 15 rfl rfl zf_X11_20 rfl h0 ?_
    refine z_iconst 7 14 rfl rfl ci_4 ?_
    refine z_iald 8 15 rfl rfl ?_
    refine z_iconst 9 16 rfl rfl ci_1 ?_
    refine z_isub 10 17 rfl rfl ?_
    refine z_cS3I 11 20 rfl rfl zl_X11_157 F_X11_in (zR_rm (by omega)) (c_X11_in X d x1 (0 : Int32) ((σ.1 (σ.2 a0 15) (4 : Int32).toNatClampNeg) - (1 : Int32)) σ) rfl (Nat.le_of_ble_eq_true rfl) (fun r1 σ2 => ?_)
    refine z_if_eq 12 23 27 rfl rfl (by decide) ?_ ?_
    · refine z_iconst 15 28 rfl rfl ci_0 ?_
      exact z_zret 16 rfl rfl
    · refine z_iconst 13 24 rfl rfl ci_1 ?_
      refine z_goto 14 28 rfl (by decide) ?_
      exact z_zret 16 rfl rfl
def f_X11_isLine (a0 : Nat) (x1 : Int32) (σ : zS) : Option (Int32 × zS) := zck (WM.2 a0 = (11, 0)) (zbr ((σ.1 a0 14) = 0) (zck (zb (0 : Int32)) (some ((0 : Int32), σ))) (zck (zok 100 (WM.2 (σ.2 a0 19)) (48 : Int32)) (zbd (f_X11_in x1 (0 : Int32) ((σ.1 (σ.2 a0 19) (48 : Int32).toNatClampNeg) - (1 : Int32)) σ) (fun r1 σ2 => zbr (r1 = 0) (zck (zb (0 : Int32)) (some ((0 : Int32), σ2))) (zck (zb (1 : Int32)) (some ((1 : Int32), σ2)))))))
theorem c_X11_isLine (X : zX) (d : Nat) (hd : 1 ≤ d) (a0 : Nat) (x1 : Int32) (σ : zS) : ∀ (r : Int32) (σ' : zS), f_X11_isLine a0 x1 σ = some (r, σ') → zCN X WM d M_X11_isLine [.ref a0, .int x1] σ (zeI r, σ') := by
  obtain ⟨d, rfl⟩ : ∃ e, d = e + 1 := ⟨d - 1, by omega⟩
  refine z_entry [.ref a0, .int x1] (by decide +kernel) T_X11_isLine (Nat.le_of_ble_eq_true rfl) ?_
  show zK X WM (zrm (d + 1)) M_X11_isLine (zZ X WM zeI) 0 [some (.ref a0), some (.int x1)] [] σ (f_X11_isLine a0 x1 σ)
  unfold f_X11_isLine
  refine z_ck (fun h0 => ?_)
  refine z_aload0 0 1 rfl rfl ?_
  refine z_getI 1 4 14 rfl rfl zf_X11_191 rfl h0 ?_
  refine z_if_eq 2 7 28 rfl rfl (by decide) ?_ ?_
  · refine z_iconst 15 29 rfl rfl ci_0 ?_
    exact z_zret 16 rfl rfl
  · refine z_iload1 3 8 rfl rfl ?_
    refine z_iconst 4 9 rfl rfl ci_0 ?_
    refine z_aload0 5 10 rfl rfl ?_
    refine z_getR 6 13 19 rfl rfl zf_X11_32 rfl h0 ?_
    refine z_bipush 7 15 rfl rfl cb_48 ?_
    refine z_iald 8 16 rfl rfl ?_
    refine z_iconst 9 17 rfl rfl ci_1 ?_
    refine z_isub 10 18 rfl rfl ?_
    refine z_cS3I 11 21 rfl rfl zl_X11_157 F_X11_in (zR_rm (by omega)) (c_X11_in X d x1 (0 : Int32) ((σ.1 (σ.2 a0 19) (48 : Int32).toNatClampNeg) - (1 : Int32)) σ) rfl (Nat.le_of_ble_eq_true rfl) (fun r1 σ2 => ?_)
    refine z_if_eq 12 24 28 rfl rfl (by decide) ?_ ?_
    · refine z_iconst 15 29 rfl rfl ci_0 ?_
      exact z_zret 16 rfl rfl
    · refine z_iconst 13 25 rfl rfl ci_1 ?_
      refine z_goto 14 29 rfl (by decide) ?_
      exact z_zret 16 rfl rfl
def f_X11_doesOutrank_94 (a0 : Nat) (H2 : Int32 → Int32 → Int32 → zS → Option (Int32 × zS)) (x1 : Int32) (x2 : Int32) (x3 : Int32) (σ : zS) : Option (Int32 × zS) := zlt (x3 + (1 : Int32)) (fun v1 => H2 x1 x2 v1 σ)
theorem t_X11_doesOutrank_94 (X : zX) (d : Nat) (hd : 1 ≤ d + 1) (a0 : Nat) (h0 : WM.2 a0 = (11, 0)) (H2 : Int32 → Int32 → Int32 → zS → Option (Int32 × zS)) (hH2 : ∀ (x1 : Int32) (x2 : Int32) (x3 : Int32) (σ : zS), zK X WM (zrm (d + 1)) M_X11_doesOutrank (zZ X WM zeI) 2 [some (.ref a0), some (.int x1), some (.int x2), some (.int x3)] [] σ (H2 x1 x2 x3 σ)) (x1 : Int32) (x2 : Int32) (x3 : Int32) (σ : zS) : zK X WM (zrm (d + 1)) M_X11_doesOutrank (zZ X WM zeI) 94 [some (.ref a0), some (.int x1), some (.int x2), some (.int x3)] [] σ (f_X11_doesOutrank_94 a0 H2 x1 x2 x3 σ) := by
  unfold f_X11_doesOutrank_94
  refine z_iinc3 62 97 rfl rfl ci_1 rfl (fun v1 => ?_)
  refine z_goto 63 2 rfl (by decide) ?_
  exact hH2 x1 x2 v1 σ
def f_X11_doesOutrank_60 (a0 : Nat) (H2 : Int32 → Int32 → Int32 → zS → Option (Int32 × zS)) (x1 : Int32) (x2 : Int32) (x3 : Int32) (σ : zS) : Option (Int32 × zS) := zck (zok 100 (WM.2 (σ.2 a0 15)) ((22 : Int32) + ((2 : Int32) * x3))) (zbr ((σ.1 (σ.2 a0 15) ((22 : Int32) + ((2 : Int32) * x3)).toNatClampNeg) = x2) (zck (zok 100 (WM.2 (σ.2 a0 15)) (((22 : Int32) + ((2 : Int32) * x3)) + (1 : Int32))) (zbr ((σ.1 (σ.2 a0 15) (((22 : Int32) + ((2 : Int32) * x3)) + (1 : Int32)).toNatClampNeg) = x1) (zck (zb (0 : Int32)) (some ((0 : Int32), σ))) (f_X11_doesOutrank_94 a0 H2 x1 x2 x3 σ))) (f_X11_doesOutrank_94 a0 H2 x1 x2 x3 σ))
theorem t_X11_doesOutrank_60 (X : zX) (d : Nat) (hd : 1 ≤ d + 1) (a0 : Nat) (h0 : WM.2 a0 = (11, 0)) (H2 : Int32 → Int32 → Int32 → zS → Option (Int32 × zS)) (hH2 : ∀ (x1 : Int32) (x2 : Int32) (x3 : Int32) (σ : zS), zK X WM (zrm (d + 1)) M_X11_doesOutrank (zZ X WM zeI) 2 [some (.ref a0), some (.int x1), some (.int x2), some (.int x3)] [] σ (H2 x1 x2 x3 σ)) (x1 : Int32) (x2 : Int32) (x3 : Int32) (σ : zS) : zK X WM (zrm (d + 1)) M_X11_doesOutrank (zZ X WM zeI) 60 [some (.ref a0), some (.int x1), some (.int x2), some (.int x3)] [] σ (f_X11_doesOutrank_60 a0 H2 x1 x2 x3 σ) := by
  unfold f_X11_doesOutrank_60
  refine z_aload0 38 61 rfl rfl ?_
  refine z_getR 39 64 15 rfl rfl zf_X11_20 rfl h0 ?_
  refine z_bipush 40 66 rfl rfl cb_22 ?_
  refine z_iconst 41 67 rfl rfl ci_2 ?_
  refine z_iload3 42 68 rfl rfl ?_
  refine z_imul 43 69 rfl rfl ?_
  refine z_iadd 44 70 rfl rfl ?_
  refine z_iald 45 71 rfl rfl ?_
  refine z_iload2 46 72 rfl rfl ?_
  refine z_icmp_ne 47 75 94 rfl rfl (by decide) ?_ ?_
  · refine z_aload0 48 76 rfl rfl ?_
    refine z_getR 49 79 15 rfl rfl zf_X11_20 rfl h0 ?_
    refine z_bipush 50 81 rfl rfl cb_22 ?_
    refine z_iconst 51 82 rfl rfl ci_2 ?_
    refine z_iload3 52 83 rfl rfl ?_
    refine z_imul 53 84 rfl rfl ?_
    refine z_iadd 54 85 rfl rfl ?_
    refine z_iconst 55 86 rfl rfl ci_1 ?_
    refine z_iadd 56 87 rfl rfl ?_
    refine z_iald 57 88 rfl rfl ?_
    refine z_iload1 58 89 rfl rfl ?_
    refine z_icmp_ne 59 92 94 rfl rfl (by decide) ?_ ?_
    · refine z_iconst 60 93 rfl rfl ci_0 ?_
      exact z_zret 61 rfl rfl
    · exact t_X11_doesOutrank_94 X d hd a0 h0 H2 hH2 x1 x2 x3 σ
  · exact t_X11_doesOutrank_94 X d hd a0 h0 H2 hH2 x1 x2 x3 σ
def f_X11_doesOutrank_2 (a0 : Nat) : Nat → Int32 → Int32 → Int32 → zS → Option (Int32 × zS)
  | 0, _, _, _, _ => none
  | n + 1, x1, x2, x3, σ => zck (zok 100 (WM.2 (σ.2 a0 15)) (2 : Int32)) (zbr ((σ.1 (σ.2 a0 15) (2 : Int32).toNatClampNeg) ≤ x3) (zck (zok 100 (WM.2 (σ.2 a0 15)) ((10 : Int32) + ((2 : Int32) * x1))) (zck (zok 100 (WM.2 (σ.2 a0 15)) ((10 : Int32) + ((2 : Int32) * x2))) (zbr ((σ.1 (σ.2 a0 15) ((10 : Int32) + ((2 : Int32) * x1)).toNatClampNeg) ≤ (σ.1 (σ.2 a0 15) ((10 : Int32) + ((2 : Int32) * x2)).toNatClampNeg)) (zck (zb (0 : Int32)) (some ((0 : Int32), σ))) (zck (zb (1 : Int32)) (some ((1 : Int32), σ)))))) (zbd (f_X11_hasBit (σ.1 a0 24) x3 σ) (fun r2 σ3 => zbr (r2 = 0) (zck (zok 100 (WM.2 (σ3.2 a0 15)) ((22 : Int32) + ((2 : Int32) * x3))) (zbr ((σ3.1 (σ3.2 a0 15) ((22 : Int32) + ((2 : Int32) * x3)).toNatClampNeg) = x1) (zck (zok 100 (WM.2 (σ3.2 a0 15)) (((22 : Int32) + ((2 : Int32) * x3)) + (1 : Int32))) (zbr ((σ3.1 (σ3.2 a0 15) (((22 : Int32) + ((2 : Int32) * x3)) + (1 : Int32)).toNatClampNeg) = x2) (zck (zb (1 : Int32)) (some ((1 : Int32), σ3))) (f_X11_doesOutrank_60 a0 (f_X11_doesOutrank_2 a0 n) x1 x2 x3 σ3))) (f_X11_doesOutrank_60 a0 (f_X11_doesOutrank_2 a0 n) x1 x2 x3 σ3))) (f_X11_doesOutrank_94 a0 (f_X11_doesOutrank_2 a0 n) x1 x2 x3 σ3))))
theorem t_X11_doesOutrank_2 (X : zX) (d : Nat) (hd : 1 ≤ d + 1) (a0 : Nat) (h0 : WM.2 a0 = (11, 0)) : ∀ (n : Nat) (x1 : Int32) (x2 : Int32) (x3 : Int32) (σ : zS), zK X WM (zrm (d + 1)) M_X11_doesOutrank (zZ X WM zeI) 2 [some (.ref a0), some (.int x1), some (.int x2), some (.int x3)] [] σ (f_X11_doesOutrank_2 a0 n x1 x2 x3 σ) := by
  intro n
  induction n with
  | zero => intro x1 x2 x3 σ; exact z_none
  | succ n ih =>
    intro x1 x2 x3 σ
    rw [f_X11_doesOutrank_2]
    refine z_iload3 2 3 rfl rfl ?_
    refine z_aload0 3 4 rfl rfl ?_
    refine z_getR 4 7 15 rfl rfl zf_X11_20 rfl h0 ?_
    refine z_iconst 5 8 rfl rfl ci_2 ?_
    refine z_iald 6 9 rfl rfl ?_
    refine z_icmp_ge 7 12 100 rfl rfl (by decide) ?_ ?_
    · refine z_aload0 64 101 rfl rfl ?_
      refine z_getR 65 104 15 rfl rfl zf_X11_20 rfl h0 ?_
      refine z_bipush 66 106 rfl rfl cb_10 ?_
      refine z_iconst 67 107 rfl rfl ci_2 ?_
      refine z_iload1 68 108 rfl rfl ?_
      refine z_imul 69 109 rfl rfl ?_
      refine z_iadd 70 110 rfl rfl ?_
      refine z_iald 71 111 rfl rfl ?_
      refine z_aload0 72 112 rfl rfl ?_
      refine z_getR 73 115 15 rfl rfl zf_X11_20 rfl h0 ?_
      refine z_bipush 74 117 rfl rfl cb_10 ?_
      refine z_iconst 75 118 rfl rfl ci_2 ?_
      refine z_iload2 76 119 rfl rfl ?_
      refine z_imul 77 120 rfl rfl ?_
      refine z_iadd 78 121 rfl rfl ?_
      refine z_iald 79 122 rfl rfl ?_
      refine z_icmp_le 80 125 129 rfl rfl (by decide) ?_ ?_
      · refine z_iconst 83 130 rfl rfl ci_0 ?_
        exact z_zret 84 rfl rfl
      · refine z_iconst 81 126 rfl rfl ci_1 ?_
        refine z_goto 82 130 rfl (by decide) ?_
        exact z_zret 84 rfl rfl
    · refine z_aload0 8 13 rfl rfl ?_
      refine z_getI 9 16 24 rfl rfl zf_X11_274 rfl h0 ?_
      refine z_iload3 10 17 rfl rfl ?_
      refine z_cS2I 11 20 rfl rfl zl_X11_277 F_X11_hasBit (zR_rm (by omega)) (c_X11_hasBit X d (σ.1 a0 24) x3 σ) rfl (Nat.le_of_ble_eq_true rfl) (fun r2 σ3 => ?_)
      refine z_if_eq 12 23 26 rfl rfl (by decide) ?_ ?_
      · refine z_aload0 14 27 rfl rfl ?_
        refine z_getR 15 30 15 rfl rfl zf_X11_20 rfl h0 ?_
        refine z_bipush 16 32 rfl rfl cb_22 ?_
        refine z_iconst 17 33 rfl rfl ci_2 ?_
        refine z_iload3 18 34 rfl rfl ?_
        refine z_imul 19 35 rfl rfl ?_
        refine z_iadd 20 36 rfl rfl ?_
        refine z_iald 21 37 rfl rfl ?_
        refine z_iload1 22 38 rfl rfl ?_
        refine z_icmp_ne 23 41 60 rfl rfl (by decide) ?_ ?_
        · refine z_aload0 24 42 rfl rfl ?_
          refine z_getR 25 45 15 rfl rfl zf_X11_20 rfl h0 ?_
          refine z_bipush 26 47 rfl rfl cb_22 ?_
          refine z_iconst 27 48 rfl rfl ci_2 ?_
          refine z_iload3 28 49 rfl rfl ?_
          refine z_imul 29 50 rfl rfl ?_
          refine z_iadd 30 51 rfl rfl ?_
          refine z_iconst 31 52 rfl rfl ci_1 ?_
          refine z_iadd 32 53 rfl rfl ?_
          refine z_iald 33 54 rfl rfl ?_
          refine z_iload2 34 55 rfl rfl ?_
          refine z_icmp_ne 35 58 60 rfl rfl (by decide) ?_ ?_
          · refine z_iconst 36 59 rfl rfl ci_1 ?_
            exact z_zret 37 rfl rfl
          · exact t_X11_doesOutrank_60 X d hd a0 h0 (f_X11_doesOutrank_2 a0 n) ih x1 x2 x3 σ3
        · exact t_X11_doesOutrank_60 X d hd a0 h0 (f_X11_doesOutrank_2 a0 n) ih x1 x2 x3 σ3
      · refine z_goto 13 94 rfl (by decide) ?_
        exact t_X11_doesOutrank_94 X d hd a0 h0 (f_X11_doesOutrank_2 a0 n) ih x1 x2 x3 σ3
def f_X11_doesOutrank (a0 : Nat) (x1 : Int32) (x2 : Int32) (σ : zS) : Option (Int32 × zS) := zck (WM.2 a0 = (11, 0)) (zlt (0 : Int32) (fun v4 => f_X11_doesOutrank_2 a0 FU x1 x2 v4 σ))
theorem c_X11_doesOutrank (X : zX) (d : Nat) (hd : 1 ≤ d) (a0 : Nat) (x1 : Int32) (x2 : Int32) (σ : zS) : ∀ (r : Int32) (σ' : zS), f_X11_doesOutrank a0 x1 x2 σ = some (r, σ') → zCN X WM d M_X11_doesOutrank [.ref a0, .int x1, .int x2] σ (zeI r, σ') := by
  obtain ⟨d, rfl⟩ : ∃ e, d = e + 1 := ⟨d - 1, by omega⟩
  refine z_entry [.ref a0, .int x1, .int x2] (by decide +kernel) T_X11_doesOutrank (Nat.le_of_ble_eq_true rfl) ?_
  show zK X WM (zrm (d + 1)) M_X11_doesOutrank (zZ X WM zeI) 0 [some (.ref a0), some (.int x1), some (.int x2), none] [] σ (f_X11_doesOutrank a0 x1 x2 σ)
  unfold f_X11_doesOutrank
  refine z_ck (fun h0 => ?_)
  refine z_iconst 0 1 rfl rfl ci_0 ?_
  refine z_istore3 1 2 rfl rfl rfl (fun v4 => ?_)
  exact t_X11_doesOutrank_2 X d hd a0 h0  FU x1 x2 v4 σ
