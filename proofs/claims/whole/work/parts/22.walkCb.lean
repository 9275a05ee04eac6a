def f_X2_stepOf_6 (a0 : Nat) : Nat → Int32 → Int32 → zS → Option (Int32 × zS)
  | 0, _, _, _ => none
  | n + 1, x2, x3, σ => zbr ((σ.1 a0 8) ≤ x3) (some (x2, σ)) (zlt (x2 * (σ.1 a0 9)) (fun v1 => zlt (x3 + (1 : Int32)) (fun v2 => f_X2_stepOf_6 a0 n v1 v2 σ)))
theorem t_X2_stepOf_6 (X : zX) (d : Nat) (a0 : Nat) (h0 : WC.2 a0 = (2, 0)) : ∀ (n : Nat) (x2 : Int32) (x3 : Int32) (σ : zS), zK X WC (zrm d) M_X2_stepOf (zZ X WC zeI) 6 [some (.ref a0), none, some (.int x2), some (.int x3)] [] σ (f_X2_stepOf_6 a0 n x2 x3 σ) := by
  intro n
  induction n with
  | zero => intro x2 x3 σ; exact z_none
  | succ n ih =>
    intro x2 x3 σ
    rw [f_X2_stepOf_6]
    refine z_iload3 6 7 rfl rfl ?_
    refine z_aload0 7 8 rfl rfl ?_
    refine z_getI 8 11 8 rfl rfl zf_X2_43 rfl h0 ?_
    refine z_icmp_ge 9 14 27 rfl rfl (by decide) ?_ ?_
    · refine z_iload2 17 28 rfl rfl ?_
      exact z_iret 18 rfl rfl
    · refine z_iload2 10 15 rfl rfl ?_
      refine z_aload0 11 16 rfl rfl ?_
      refine z_getI 12 19 9 rfl rfl zf_X2_49 rfl h0 ?_
      refine z_imul 13 20 rfl rfl ?_
      refine z_istore2 14 21 rfl rfl rfl (fun v1 => ?_)
      refine z_iinc3 15 24 rfl rfl ci_1 rfl (fun v2 => ?_)
      refine z_goto 16 6 rfl (by decide) ?_
      exact ih v1 v2 σ
def f_X2_stepOf (a0 : Nat) (x1 : Int32) (σ : zS) : Option (Int32 × zS) := zck (WC.2 a0 = (2, 0)) (zlt (1 : Int32) (fun v3 => zlt (x1 + (1 : Int32)) (fun v4 => f_X2_stepOf_6 a0 FU v3 v4 σ)))
theorem c_X2_stepOf (X : zX) (d : Nat) (a0 : Nat) (x1 : Int32) (σ : zS) : ∀ (r : Int32) (σ' : zS), f_X2_stepOf a0 x1 σ = some (r, σ') → zCN X WC d M_X2_stepOf [.ref a0, .int x1] σ (zeI r, σ') := by
  refine z_entry [.ref a0, .int x1] (by decide +kernel) T_X2_stepOf (Nat.le_of_ble_eq_true rfl) ?_
  show zK X WC (zrm d) M_X2_stepOf (zZ X WC zeI) 0 [some (.ref a0), some (.int x1), none, none] [] σ (f_X2_stepOf a0 x1 σ)
  unfold f_X2_stepOf
  refine z_ck (fun h0 => ?_)
  refine z_iconst 0 1 rfl rfl ci_1 ?_
  refine z_istore2 1 2 rfl rfl rfl (fun v3 => ?_)
  refine z_iload1 2 3 rfl rfl ?_
  refine z_iconst 3 4 rfl rfl ci_1 ?_
  refine z_iadd 4 5 rfl rfl ?_
  refine z_istore3 5 6 rfl rfl rfl (fun v4 => ?_)
  exact z_wk (zle_e (zle_n (zle_e (zle_e zle_0)))) (t_X2_stepOf_6 X d a0 h0  FU v3 v4 σ)
def f_X2_digit (a0 : Nat) (x1 : Int32) (x2 : Int32) (σ : zS) : Option (Int32 × zS) := zck (WC.2 a0 = (2, 0)) (zbd (f_X2_stepOf a0 x2 σ) (fun r1 σ2 => zlt r1 (fun v3 => zbr (v3 ≤ 0) (some ((0 : Int32), σ2)) (zbr ((σ2.1 a0 9) ≤ 0) (some ((0 : Int32), σ2)) (zck (¬ v3 = 0) (zck (¬ (σ2.1 a0 9) = 0) (some (((x1 / v3) - (x1 / v3) / (σ2.1 a0 9) * (σ2.1 a0 9)), σ2))))))))
theorem c_X2_digit (X : zX) (d : Nat) (hd : 1 ≤ d) (a0 : Nat) (x1 : Int32) (x2 : Int32) (σ : zS) : ∀ (r : Int32) (σ' : zS), f_X2_digit a0 x1 x2 σ = some (r, σ') → zCN X WC d M_X2_digit [.ref a0, .int x1, .int x2] σ (zeI r, σ') := by
  obtain ⟨d, rfl⟩ : ∃ e, d = e + 1 := ⟨d - 1, by omega⟩
  refine z_entry [.ref a0, .int x1, .int x2] (by decide +kernel) T_X2_digit (Nat.le_of_ble_eq_true rfl) ?_
  show zK X WC (zrm (d + 1)) M_X2_digit (zZ X WC zeI) 0 [some (.ref a0), some (.int x1), some (.int x2), none] [] σ (f_X2_digit a0 x1 x2 σ)
  unfold f_X2_digit
  refine z_ck (fun h0 => ?_)
  refine z_aload0 0 1 rfl rfl ?_
  refine z_iload2 1 2 rfl rfl ?_
  refine z_cV1I 2 5 rfl rfl zl_X2_75 F_X2_stepOf (zR_rm (by omega)) (c_X2_stepOf X d a0 x2 σ) ⟨by decide, rfl, rfl⟩ h0 rfl (Nat.le_of_ble_eq_true rfl) (fun r1 σ2 => ?_)
  refine z_istore3 3 6 rfl rfl rfl (fun v3 => ?_)
  refine z_iload3 4 7 rfl rfl ?_
  refine z_if_le 5 10 28 rfl rfl (by decide) ?_ ?_
  · refine z_iconst 16 29 rfl rfl ci_0 ?_
    exact z_iret 17 rfl rfl
  · refine z_aload0 6 11 rfl rfl ?_
    refine z_getI 7 14 9 rfl rfl zf_X2_49 rfl h0 ?_
    refine z_if_le 8 17 28 rfl rfl (by decide) ?_ ?_
    · refine z_iconst 16 29 rfl rfl ci_0 ?_
      exact z_iret 17 rfl rfl
    · refine z_iload1 9 18 rfl rfl ?_
      refine z_iload3 10 19 rfl rfl ?_
      refine z_ck (fun h4 => ?_)
      refine z_idiv 11 20 rfl rfl h4 ?_
      refine z_aload0 12 21 rfl rfl ?_
      refine z_getI 13 24 9 rfl rfl zf_X2_49 rfl h0 ?_
      refine z_ck (fun h5 => ?_)
      refine z_irem 14 25 rfl rfl h5 ?_
      refine z_goto 15 29 rfl (by decide) ?_
      exact z_iret 17 rfl rfl
def f_X2_fill_135 (a0 : Nat) (H42 : Nat → Int32 → Int32 → zS → Option (Unit × zS)) (x1 : Nat) (x2 : Int32) (x3 : Int32) (σ : zS) : Option (Unit × zS) := zlt (x3 + (1 : Int32)) (fun v1 => H42 x1 x2 v1 σ)
theorem t_X2_fill_135 (X : zX) (d : Nat) (hd : 2 ≤ d + 1) (a0 : Nat) (h0 : WC.2 a0 = (2, 0)) (H42 : Nat → Int32 → Int32 → zS → Option (Unit × zS)) (hH42 : ∀ (x1 : Nat) (x2 : Int32) (x3 : Int32) (σ : zS), zK X WC (zrm (d + 1)) M_X2_fill (zZ X WC zeV) 42 [some (.ref a0), some (.ref x1), some (.int x2), some (.int x3), none, none, none] [] σ (H42 x1 x2 x3 σ)) (x1 : Nat) (x2 : Int32) (x3 : Int32) (σ : zS) : zK X WC (zrm (d + 1)) M_X2_fill (zZ X WC zeV) 135 [some (.ref a0), some (.ref x1), some (.int x2), some (.int x3), none, none, none] [] σ (f_X2_fill_135 a0 H42 x1 x2 x3 σ) := by
  unfold f_X2_fill_135
  refine z_iinc3 82 138 rfl rfl ci_1 rfl (fun v1 => ?_)
  refine z_goto 83 42 rfl (by decide) ?_
  exact hH42 x1 x2 v1 σ
def f_X2_fill_134 (a0 : Nat) (H42 : Nat → Int32 → Int32 → zS → Option (Unit × zS)) (x1 : Nat) (x2 : Int32) (x3 : Int32) (s0 : Nat) (s1 : Int32) (s2 : Int32) (σ : zS) : Option (Unit × zS) := zck (zok 100 (WC.2 s0) s1) (zlt (zpi σ s0 s1.toNatClampNeg s2) (fun σ2 => f_X2_fill_135 a0 H42 x1 x2 x3 σ2))
theorem t_X2_fill_134 (X : zX) (d : Nat) (hd : 2 ≤ d + 1) (a0 : Nat) (h0 : WC.2 a0 = (2, 0)) (H42 : Nat → Int32 → Int32 → zS → Option (Unit × zS)) (hH42 : ∀ (x1 : Nat) (x2 : Int32) (x3 : Int32) (σ : zS), zK X WC (zrm (d + 1)) M_X2_fill (zZ X WC zeV) 42 [some (.ref a0), some (.ref x1), some (.int x2), some (.int x3), none, none, none] [] σ (H42 x1 x2 x3 σ)) (x1 : Nat) (x2 : Int32) (x3 : Int32) (s0 : Nat) (s1 : Int32) (s2 : Int32) (σ : zS) : zK X WC (zrm (d + 1)) M_X2_fill (zZ X WC zeV) 134 [some (.ref a0), some (.ref x1), some (.int x2), some (.int x3), none, none, none] [.int s2, .int s1, .ref s0] σ (f_X2_fill_134 a0 H42 x1 x2 x3 s0 s1 s2 σ) := by
  unfold f_X2_fill_134
  refine z_iast 81 135 rfl rfl (fun σ2 => ?_)
  exact t_X2_fill_135 X d hd a0 h0 H42 hH42 x1 x2 x3 σ2
def f_X2_fill_42 (a0 : Nat) : Nat → Nat → Int32 → Int32 → zS → Option (Unit × zS)
  | 0, _, _, _, _ => none
  | n + 1, x1, x2, x3, σ => zbr ((σ.1 a0 8) ≤ x3) (some ((), σ)) (zbd (f_X2_digit a0 x2 x3 σ) (fun r3 σ4 => zlt r3 (fun v5 => zck (¬ (2 : Int32) = 0) (zlt (v5 / (2 : Int32)) (fun v7 => zck (WC.2 x1 = (3, 0)) (zck (zok 100 (WC.2 (σ4.2 x1 6)) x3) (zlt ((1 : Int32) <<< ((σ4.1 (σ4.2 x1 6) x3.toNatClampNeg) &&& 31)) (fun v9 => zbr ((σ4.1 x1 13) ≤ v7) (f_X2_fill_135 a0 (f_X2_fill_42 a0 n) x1 x2 x3 σ4) (zck (zok 100 (WC.2 (σ4.2 a0 4)) v7) (zck (zok 100 (WC.2 (σ4.2 a0 4)) v7) (zlt (zpi σ4 (σ4.2 a0 4) v7.toNatClampNeg ((σ4.1 (σ4.2 a0 4) v7.toNatClampNeg) ||| v9)) (fun σ10 => zck (¬ (2 : Int32) = 0) (zbr ((v5 - v5 / (2 : Int32) * (2 : Int32)) = (1 : Int32)) (zck (zok 100 (WC.2 (σ10.2 a0 5)) v7) (f_X2_fill_134 a0 (f_X2_fill_42 a0 n) x1 x2 x3 (σ10.2 a0 5) v7 ((σ10.1 (σ10.2 a0 5) v7.toNatClampNeg) ||| v9) σ10)) (zck (zok 100 (WC.2 (σ10.2 a0 5)) v7) (f_X2_fill_134 a0 (f_X2_fill_42 a0 n) x1 x2 x3 (σ10.2 a0 5) v7 ((σ10.1 (σ10.2 a0 5) v7.toNatClampNeg) &&& (v9 ^^^ (-1 : Int32))) σ10)))))))))))))))
theorem t_X2_fill_42 (X : zX) (d : Nat) (hd : 2 ≤ d + 1) (a0 : Nat) (h0 : WC.2 a0 = (2, 0)) : ∀ (n : Nat) (x1 : Nat) (x2 : Int32) (x3 : Int32) (σ : zS), zK X WC (zrm (d + 1)) M_X2_fill (zZ X WC zeV) 42 [some (.ref a0), some (.ref x1), some (.int x2), some (.int x3), none, none, none] [] σ (f_X2_fill_42 a0 n x1 x2 x3 σ) := by
  intro n
  induction n with
  | zero => intro x1 x2 x3 σ; exact z_none
  | succ n ih =>
    intro x1 x2 x3 σ
    rw [f_X2_fill_42]
    refine z_iload3 26 43 rfl rfl ?_
    refine z_aload0 27 44 rfl rfl ?_
    refine z_getI 28 47 8 rfl rfl zf_X2_43 rfl h0 ?_
    refine z_icmp_ge 29 50 141 rfl rfl (by decide) ?_ ?_
    · exact z_vret 84 rfl rfl
    · refine z_aload0 30 51 rfl rfl ?_
      refine z_iload2 31 52 rfl rfl ?_
      refine z_iload3 32 53 rfl rfl ?_
      refine z_cV2I 33 56 rfl rfl zl_X2_90 F_X2_digit (zR_rm (by omega)) (c_X2_digit X d (by omega) a0 x2 x3 σ) ⟨by decide, rfl, rfl⟩ h0 rfl (Nat.le_of_ble_eq_true rfl) (fun r3 σ4 => ?_)
      refine z_istore4 34 58 rfl rfl rfl (fun v5 => ?_)
      refine z_iload4 35 60 rfl rfl ?_
      refine z_iconst 36 61 rfl rfl ci_2 ?_
      refine z_ck (fun h6 => ?_)
      refine z_idiv 37 62 rfl rfl h6 ?_
      refine z_istore5 38 64 rfl rfl rfl (fun v7 => ?_)
      refine z_iconst 39 65 rfl rfl ci_1 ?_
      refine z_aload1 40 66 rfl rfl ?_
      refine z_ck (fun h8 => ?_)
      refine z_getR 41 69 6 rfl rfl zf_X2_93 rfl h8 ?_
      refine z_iload3 42 70 rfl rfl ?_
      refine z_iald 43 71 rfl rfl ?_
      refine z_ishl 44 72 rfl rfl ?_
      refine z_istore6 45 74 rfl rfl rfl (fun v9 => ?_)
      refine z_iload5 46 76 rfl rfl ?_
      refine z_aload1 47 77 rfl rfl ?_
      refine z_getI 48 80 13 rfl rfl zf_X2_46 rfl h8 ?_
      refine z_icmp_ge 49 83 135 rfl rfl (by decide) ?_ ?_
      · exact z_wk (zle_e (zle_e (zle_e (zle_e (zle_n (zle_n (zle_n zle_0))))))) (t_X2_fill_135 X d hd a0 h0 (f_X2_fill_42 a0 n) ih x1 x2 x3 σ4)
      · refine z_aload0 50 84 rfl rfl ?_
        refine z_getR 51 87 4 rfl rfl zf_X2_24 rfl h0 ?_
        refine z_iload5 52 89 rfl rfl ?_
        refine z_dup2 53 90 rfl rfl rfl rfl ?_
        refine z_iald 54 91 rfl rfl ?_
        refine z_iload6 55 93 rfl rfl ?_
        refine z_ior 56 94 rfl rfl ?_
        refine z_iast 57 95 rfl rfl (fun σ10 => ?_)
        refine z_aload0 58 96 rfl rfl ?_
        refine z_getR 59 99 5 rfl rfl zf_X2_27 rfl h0 ?_
        refine z_iload5 60 101 rfl rfl ?_
        refine z_iload4 61 103 rfl rfl ?_
        refine z_iconst 62 104 rfl rfl ci_2 ?_
        refine z_ck (fun h11 => ?_)
        refine z_irem 63 105 rfl rfl h11 ?_
        refine z_iconst 64 106 rfl rfl ci_1 ?_
        refine z_icmp_ne 65 109 122 rfl rfl (by decide) ?_ ?_
        · refine z_aload0 66 110 rfl rfl ?_
          refine z_getR 67 113 5 rfl rfl zf_X2_27 rfl h0 ?_
          refine z_iload5 68 115 rfl rfl ?_
          refine z_iald 69 116 rfl rfl ?_
          refine z_iload6 70 118 rfl rfl ?_
          refine z_ior 71 119 rfl rfl ?_
          refine z_goto 72 134 rfl (by decide) ?_
          exact z_wk (zle_e (zle_e (zle_e (zle_e (zle_n (zle_n (zle_n zle_0))))))) (t_X2_fill_134 X d hd a0 h0 (f_X2_fill_42 a0 n) ih x1 x2 x3 (σ10.2 a0 5) v7 ((σ10.1 (σ10.2 a0 5) v7.toNatClampNeg) ||| v9) σ10)
        · refine z_aload0 73 123 rfl rfl ?_
          refine z_getR 74 126 5 rfl rfl zf_X2_27 rfl h0 ?_
          refine z_iload5 75 128 rfl rfl ?_
          refine z_iald 76 129 rfl rfl ?_
          refine z_iload6 77 131 rfl rfl ?_
          refine z_iconst 78 132 rfl rfl ci_m1 ?_
          refine z_ixor 79 133 rfl rfl ?_
          refine z_iand 80 134 rfl rfl ?_
          exact z_wk (zle_e (zle_e (zle_e (zle_e (zle_n (zle_n (zle_n zle_0))))))) (t_X2_fill_134 X d hd a0 h0 (f_X2_fill_42 a0 n) ih x1 x2 x3 (σ10.2 a0 5) v7 ((σ10.1 (σ10.2 a0 5) v7.toNatClampNeg) &&& (v9 ^^^ (-1 : Int32))) σ10)
def f_X2_fill_2 (a0 : Nat) : Nat → Nat → Int32 → Int32 → zS → Option (Unit × zS)
  | 0, _, _, _, _ => none
  | n + 1, x1, x2, x3, σ => zck (WC.2 x1 = (3, 0)) (zbr ((σ.1 x1 13) ≤ x3) (zlt (0 : Int32) (fun v13 => f_X2_fill_42 a0 FU x1 x2 v13 σ)) (zck (zok 100 (WC.2 (σ.2 a0 2)) x3) (zck (zok 100 (WC.2 (σ.2 a0 4)) x3) (zlt (zpi σ (σ.2 a0 4) x3.toNatClampNeg (σ.1 (σ.2 a0 2) x3.toNatClampNeg)) (fun σ14 => zck (zok 100 (WC.2 (σ14.2 a0 3)) x3) (zck (zok 100 (WC.2 (σ14.2 a0 5)) x3) (zlt (zpi σ14 (σ14.2 a0 5) x3.toNatClampNeg (σ14.1 (σ14.2 a0 3) x3.toNatClampNeg)) (fun σ15 => zlt (x3 + (1 : Int32)) (fun v16 => f_X2_fill_2 a0 n x1 x2 v16 σ15)))))))))
theorem t_X2_fill_2 (X : zX) (d : Nat) (hd : 2 ≤ d + 1) (a0 : Nat) (h0 : WC.2 a0 = (2, 0)) : ∀ (n : Nat) (x1 : Nat) (x2 : Int32) (x3 : Int32) (σ : zS), zK X WC (zrm (d + 1)) M_X2_fill (zZ X WC zeV) 2 [some (.ref a0), some (.ref x1), some (.int x2), some (.int x3), none, none, none] [] σ (f_X2_fill_2 a0 n x1 x2 x3 σ) := by
  intro n
  induction n with
  | zero => intro x1 x2 x3 σ; exact z_none
  | succ n ih =>
    intro x1 x2 x3 σ
    rw [f_X2_fill_2]
    refine z_iload3 2 3 rfl rfl ?_
    refine z_aload1 3 4 rfl rfl ?_
    refine z_ck (fun h12 => ?_)
    refine z_getI 4 7 13 rfl rfl zf_X2_46 rfl h12 ?_
    refine z_icmp_ge 5 10 40 rfl rfl (by decide) ?_ ?_
    · refine z_iconst 24 41 rfl rfl ci_0 ?_
      refine z_istore3 25 42 rfl rfl rfl (fun v13 => ?_)
      exact t_X2_fill_42 X d hd a0 h0  FU x1 x2 v13 σ
    · refine z_aload0 6 11 rfl rfl ?_
      refine z_getR 7 14 4 rfl rfl zf_X2_24 rfl h0 ?_
      refine z_iload3 8 15 rfl rfl ?_
      refine z_aload0 9 16 rfl rfl ?_
      refine z_getR 10 19 2 rfl rfl zf_X2_18 rfl h0 ?_
      refine z_iload3 11 20 rfl rfl ?_
      refine z_iald 12 21 rfl rfl ?_
      refine z_iast 13 22 rfl rfl (fun σ14 => ?_)
      refine z_aload0 14 23 rfl rfl ?_
      refine z_getR 15 26 5 rfl rfl zf_X2_27 rfl h0 ?_
      refine z_iload3 16 27 rfl rfl ?_
      refine z_aload0 17 28 rfl rfl ?_
      refine z_getR 18 31 3 rfl rfl zf_X2_21 rfl h0 ?_
      refine z_iload3 19 32 rfl rfl ?_
      refine z_iald 20 33 rfl rfl ?_
      refine z_iast 21 34 rfl rfl (fun σ15 => ?_)
      refine z_iinc3 22 37 rfl rfl ci_1 rfl (fun v16 => ?_)
      refine z_goto 23 2 rfl (by decide) ?_
      exact ih x1 x2 v16 σ15
def f_X2_fill (a0 : Nat) (x1 : Nat) (x2 : Int32) (σ : zS) : Option (Unit × zS) := zck (WC.2 a0 = (2, 0)) (zlt (0 : Int32) (fun v17 => f_X2_fill_2 a0 FU x1 x2 v17 σ))
theorem c_X2_fill (X : zX) (d : Nat) (hd : 2 ≤ d) (a0 : Nat) (x1 : Nat) (x2 : Int32) (σ : zS) : ∀ (r : Unit) (σ' : zS), f_X2_fill a0 x1 x2 σ = some (r, σ') → zCN X WC d M_X2_fill [.ref a0, .ref x1, .int x2] σ (zeV r, σ') := by
  obtain ⟨d, rfl⟩ : ∃ e, d = e + 1 := ⟨d - 1, by omega⟩
  refine z_entry [.ref a0, .ref x1, .int x2] (by decide +kernel) T_X2_fill (Nat.le_of_ble_eq_true rfl) ?_
  show zK X WC (zrm (d + 1)) M_X2_fill (zZ X WC zeV) 0 [some (.ref a0), some (.ref x1), some (.int x2), none, none, none, none] [] σ (f_X2_fill a0 x1 x2 σ)
  unfold f_X2_fill
  refine z_ck (fun h0 => ?_)
  refine z_iconst 0 1 rfl rfl ci_0 ?_
  refine z_istore3 1 2 rfl rfl rfl (fun v17 => ?_)
  exact t_X2_fill_2 X d hd a0 h0  FU x1 x2 v17 σ
def f_X2_isAsTold_47 (a0 : Nat) (H2 : Nat → Nat → Int32 → zS → Option (Int32 × zS)) (x1 : Nat) (x2 : Nat) (x3 : Int32) (σ : zS) : Option (Int32 × zS) := zlt (x3 + (1 : Int32)) (fun v1 => H2 x1 x2 v1 σ)
theorem t_X2_isAsTold_47 (X : zX) (d : Nat) (hd : 2 ≤ d + 1) (a0 : Nat) (h0 : WC.2 a0 = (2, 0)) (H2 : Nat → Nat → Int32 → zS → Option (Int32 × zS)) (hH2 : ∀ (x1 : Nat) (x2 : Nat) (x3 : Int32) (σ : zS), zK X WC (zrm (d + 1)) M_X2_isAsTold (zZ X WC zeI) 2 [some (.ref a0), some (.ref x1), some (.ref x2), some (.int x3), none] [] σ (H2 x1 x2 x3 σ)) (x1 : Nat) (x2 : Nat) (x3 : Int32) (σ : zS) : zK X WC (zrm (d + 1)) M_X2_isAsTold (zZ X WC zeI) 47 [some (.ref a0), some (.ref x1), some (.ref x2), some (.int x3), none] [] σ (f_X2_isAsTold_47 a0 H2 x1 x2 x3 σ) := by
  unfold f_X2_isAsTold_47
  refine z_iinc3 28 50 rfl rfl ci_1 rfl (fun v1 => ?_)
  refine z_goto 29 2 rfl (by decide) ?_
  exact hH2 x1 x2 v1 σ
def f_X2_isAsTold_2 (a0 : Nat) : Nat → Nat → Nat → Int32 → zS → Option (Int32 × zS)
  | 0, _, _, _, _ => none
  | n + 1, x1, x2, x3, σ => zck (WC.2 x1 = (3, 0)) (zbr ((σ.1 x1 13) ≤ x3) (zck (zb (1 : Int32)) (some ((1 : Int32), σ))) (zck (zok 100 (WC.2 (σ.2 x1 5)) x3) (zlt (σ.1 (σ.2 x1 5) x3.toNatClampNeg) (fun v3 => zbr (v3 = (-1 : Int32)) (f_X2_isAsTold_47 a0 (f_X2_isAsTold_2 a0 n) x1 x2 x3 σ) (zck (zok 100 (WC.2 (σ.2 a0 4)) x3) (zck (zok 100 (WC.2 (σ.2 a0 5)) x3) (zck (WC.2 x2 = (5, 0)) (zbd (f_X5_outcome x2 (σ.1 (σ.2 a0 4) x3.toNatClampNeg) (σ.1 (σ.2 a0 5) x3.toNatClampNeg) σ) (fun r5 σ6 => zbr (v3 = r5) (f_X2_isAsTold_47 a0 (f_X2_isAsTold_2 a0 n) x1 x2 x3 σ6) (zck (zb (0 : Int32)) (some ((0 : Int32), σ6))))))))))))
theorem t_X2_isAsTold_2 (X : zX) (d : Nat) (hd : 2 ≤ d + 1) (a0 : Nat) (h0 : WC.2 a0 = (2, 0)) : ∀ (n : Nat) (x1 : Nat) (x2 : Nat) (x3 : Int32) (σ : zS), zK X WC (zrm (d + 1)) M_X2_isAsTold (zZ X WC zeI) 2 [some (.ref a0), some (.ref x1), some (.ref x2), some (.int x3), none] [] σ (f_X2_isAsTold_2 a0 n x1 x2 x3 σ) := by
  intro n
  induction n with
  | zero => intro x1 x2 x3 σ; exact z_none
  | succ n ih =>
    intro x1 x2 x3 σ
    rw [f_X2_isAsTold_2]
    refine z_iload3 2 3 rfl rfl ?_
    refine z_aload1 3 4 rfl rfl ?_
    refine z_ck (fun h2 => ?_)
    refine z_getI 4 7 13 rfl rfl zf_X2_46 rfl h2 ?_
    refine z_icmp_ge 5 10 53 rfl rfl (by decide) ?_ ?_
    · refine z_iconst 30 54 rfl rfl ci_1 ?_
      exact z_zret 31 rfl rfl
    · refine z_aload1 6 11 rfl rfl ?_
      refine z_getR 7 14 5 rfl rfl zf_X2_96 rfl h2 ?_
      refine z_iload3 8 15 rfl rfl ?_
      refine z_iald 9 16 rfl rfl ?_
      refine z_istore4 10 18 rfl rfl rfl (fun v3 => ?_)
      refine z_iload4 11 20 rfl rfl ?_
      refine z_iconst 12 21 rfl rfl ci_m1 ?_
      refine z_icmp_eq 13 24 47 rfl rfl (by decide) ?_ ?_
      · exact z_wk (zle_e (zle_e (zle_e (zle_e (zle_n zle_0))))) (t_X2_isAsTold_47 X d hd a0 h0 (f_X2_isAsTold_2 a0 n) ih x1 x2 x3 σ)
      · refine z_iload4 14 26 rfl rfl ?_
        refine z_aload2 15 27 rfl rfl ?_
        refine z_aload0 16 28 rfl rfl ?_
        refine z_getR 17 31 4 rfl rfl zf_X2_24 rfl h0 ?_
        refine z_iload3 18 32 rfl rfl ?_
        refine z_iald 19 33 rfl rfl ?_
        refine z_aload0 20 34 rfl rfl ?_
        refine z_getR 21 37 5 rfl rfl zf_X2_27 rfl h0 ?_
        refine z_iload3 22 38 rfl rfl ?_
        refine z_iald 23 39 rfl rfl ?_
        refine z_ck (fun h4 => ?_)
        refine z_cV2I 24 42 rfl rfl zl_X2_99 F_X5_outcome (zR_rm (by omega)) (c_X5_outcome X d (by omega) x2 (σ.1 (σ.2 a0 4) x3.toNatClampNeg) (σ.1 (σ.2 a0 5) x3.toNatClampNeg) σ) ⟨by decide, rfl, rfl⟩ h4 rfl (Nat.le_of_ble_eq_true rfl) (fun r5 σ6 => ?_)
        refine z_icmp_eq 25 45 47 rfl rfl (by decide) ?_ ?_
        · exact z_wk (zle_e (zle_e (zle_e (zle_e (zle_n zle_0))))) (t_X2_isAsTold_47 X d hd a0 h0 (f_X2_isAsTold_2 a0 n) ih x1 x2 x3 σ6)
        · refine z_iconst 26 46 rfl rfl ci_0 ?_
          exact z_zret 27 rfl rfl
def f_X2_isAsTold (a0 : Nat) (x1 : Nat) (x2 : Nat) (σ : zS) : Option (Int32 × zS) := zck (WC.2 a0 = (2, 0)) (zlt (0 : Int32) (fun v7 => f_X2_isAsTold_2 a0 FU x1 x2 v7 σ))
theorem c_X2_isAsTold (X : zX) (d : Nat) (hd : 2 ≤ d) (a0 : Nat) (x1 : Nat) (x2 : Nat) (σ : zS) : ∀ (r : Int32) (σ' : zS), f_X2_isAsTold a0 x1 x2 σ = some (r, σ') → zCN X WC d M_X2_isAsTold [.ref a0, .ref x1, .ref x2] σ (zeI r, σ') := by
  obtain ⟨d, rfl⟩ : ∃ e, d = e + 1 := ⟨d - 1, by omega⟩
  refine z_entry [.ref a0, .ref x1, .ref x2] (by decide +kernel) T_X2_isAsTold (Nat.le_of_ble_eq_true rfl) ?_
  show zK X WC (zrm (d + 1)) M_X2_isAsTold (zZ X WC zeI) 0 [some (.ref a0), some (.ref x1), some (.ref x2), none, none] [] σ (f_X2_isAsTold a0 x1 x2 σ)
  unfold f_X2_isAsTold
  refine z_ck (fun h0 => ?_)
  refine z_iconst 0 1 rfl rfl ci_0 ?_
  refine z_istore3 1 2 rfl rfl rfl (fun v7 => ?_)
  exact t_X2_isAsTold_2 X d hd a0 h0  FU x1 x2 v7 σ
def f_X2_keep_22 (a0 : Nat) : Nat → Int32 → Int32 → zS → Option (Unit × zS)
  | 0, _, _, _ => none
  | n + 1, x1, x2, σ => zbr ((σ.1 a0 8) ≤ x2) (some ((), σ)) (zbd (f_X2_digit a0 x1 x2 σ) (fun r1 σ2 => zck (zok 100 (WC.2 (σ.2 a0 1)) ((x2 * (9 : Int32)) + r1)) (zck (zok 100 (WC.2 (σ.2 a0 1)) ((x2 * (9 : Int32)) + r1)) (zlt (zpi σ2 (σ.2 a0 1) ((x2 * (9 : Int32)) + r1).toNatClampNeg ((σ2.1 (σ.2 a0 1) ((x2 * (9 : Int32)) + r1).toNatClampNeg) + (1 : Int32))) (fun σ3 => zlt (x2 + (1 : Int32)) (fun v4 => f_X2_keep_22 a0 n x1 v4 σ3))))))
theorem t_X2_keep_22 (X : zX) (d : Nat) (hd : 2 ≤ d + 1) (a0 : Nat) (h0 : WC.2 a0 = (2, 0)) : ∀ (n : Nat) (x1 : Int32) (x2 : Int32) (σ : zS), zK X WC (zrm (d + 1)) M_X2_keep (zZ X WC zeV) 22 [some (.ref a0), some (.int x1), some (.int x2)] [] σ (f_X2_keep_22 a0 n x1 x2 σ) := by
  intro n
  induction n with
  | zero => intro x1 x2 σ; exact z_none
  | succ n ih =>
    intro x1 x2 σ
    rw [f_X2_keep_22]
    refine z_iload2 14 23 rfl rfl ?_
    refine z_aload0 15 24 rfl rfl ?_
    refine z_getI 16 27 8 rfl rfl zf_X2_43 rfl h0 ?_
    refine z_icmp_ge 17 30 56 rfl rfl (by decide) ?_ ?_
    · exact z_vret 35 rfl rfl
    · refine z_aload0 18 31 rfl rfl ?_
      refine z_getR 19 34 1 rfl rfl zf_X2_15 rfl h0 ?_
      refine z_iload2 20 35 rfl rfl ?_
      refine z_bipush 21 37 rfl rfl cb_9 ?_
      refine z_imul 22 38 rfl rfl ?_
      refine z_aload0 23 39 rfl rfl ?_
      refine z_iload1 24 40 rfl rfl ?_
      refine z_iload2 25 41 rfl rfl ?_
      refine z_cV2I 26 44 rfl rfl zl_X2_90 F_X2_digit (zR_rm (by omega)) (c_X2_digit X d (by omega) a0 x1 x2 σ) ⟨by decide, rfl, rfl⟩ h0 rfl (Nat.le_of_ble_eq_true rfl) (fun r1 σ2 => ?_)
      refine z_iadd 27 45 rfl rfl ?_
      refine z_dup2 28 46 rfl rfl rfl rfl ?_
      refine z_iald 29 47 rfl rfl ?_
      refine z_iconst 30 48 rfl rfl ci_1 ?_
      refine z_iadd 31 49 rfl rfl ?_
      refine z_iast 32 50 rfl rfl (fun σ3 => ?_)
      refine z_iinc2 33 53 rfl rfl ci_1 rfl (fun v4 => ?_)
      refine z_goto 34 22 rfl (by decide) ?_
      exact ih x1 v4 σ3
def f_X2_keep (a0 : Nat) (x1 : Int32) (σ : zS) : Option (Unit × zS) := zck (WC.2 a0 = (2, 0)) (zck (zok 100 (WC.2 (σ.2 a0 0)) (σ.1 a0 7)) (zlt (zpi σ (σ.2 a0 0) (σ.1 a0 7).toNatClampNeg x1) (fun σ5 => zlt (zpi σ5 a0 7 ((σ5.1 a0 7) + (1 : Int32))) (fun σ6 => zlt (0 : Int32) (fun v7 => f_X2_keep_22 a0 FU x1 v7 σ6)))))
theorem c_X2_keep (X : zX) (d : Nat) (hd : 2 ≤ d) (a0 : Nat) (x1 : Int32) (σ : zS) : ∀ (r : Unit) (σ' : zS), f_X2_keep a0 x1 σ = some (r, σ') → zCN X WC d M_X2_keep [.ref a0, .int x1] σ (zeV r, σ') := by
  obtain ⟨d, rfl⟩ : ∃ e, d = e + 1 := ⟨d - 1, by omega⟩
  refine z_entry [.ref a0, .int x1] (by decide +kernel) T_X2_keep (Nat.le_of_ble_eq_true rfl) ?_
  show zK X WC (zrm (d + 1)) M_X2_keep (zZ X WC zeV) 0 [some (.ref a0), some (.int x1), none] [] σ (f_X2_keep a0 x1 σ)
  unfold f_X2_keep
  refine z_ck (fun h0 => ?_)
  refine z_aload0 0 1 rfl rfl ?_
  refine z_getR 1 4 0 rfl rfl zf_X2_9 rfl h0 ?_
  refine z_aload0 2 5 rfl rfl ?_
  refine z_getI 3 8 7 rfl rfl zf_X2_34 rfl h0 ?_
  refine z_iload1 4 9 rfl rfl ?_
  refine z_iast 5 10 rfl rfl (fun σ5 => ?_)
  refine z_aload0 6 11 rfl rfl ?_
  refine z_dup 7 12 rfl rfl rfl ?_
  refine z_getI 8 15 7 rfl rfl zf_X2_34 rfl h0 ?_
  refine z_iconst 9 16 rfl rfl ci_1 ?_
  refine z_iadd 10 17 rfl rfl ?_
  refine z_putI 11 20 7 rfl rfl zf_X2_34 rfl rfl rfl h0 (fun σ6 => ?_)
  refine z_iconst 12 21 rfl rfl ci_0 ?_
  refine z_istore2 13 22 rfl rfl rfl (fun v7 => ?_)
  exact t_X2_keep_22 X d hd a0 h0  FU x1 v7 σ6
def f_X2_find_153 (a0 : Nat) (H116 : Nat → Nat → Int32 → Int32 → zS → Option (Unit × zS)) (x1 : Nat) (x2 : Nat) (x4 : Int32) (x5 : Int32) (σ : zS) : Option (Unit × zS) := zlt (x5 + (1 : Int32)) (fun v1 => H116 x1 x2 x4 v1 σ)
theorem t_X2_find_153 (X : zX) (d : Nat) (hd : 3 ≤ d + 1) (a0 : Nat) (h0 : WC.2 a0 = (2, 0)) (H116 : Nat → Nat → Int32 → Int32 → zS → Option (Unit × zS)) (hH116 : ∀ (x1 : Nat) (x2 : Nat) (x4 : Int32) (x5 : Int32) (σ : zS), zK X WC (zrm (d + 1)) M_X2_find (zZ X WC zeV) 116 [some (.ref a0), some (.ref x1), some (.ref x2), none, some (.int x4), some (.int x5)] [] σ (H116 x1 x2 x4 x5 σ)) (x1 : Nat) (x2 : Nat) (x4 : Int32) (x5 : Int32) (σ : zS) : zK X WC (zrm (d + 1)) M_X2_find (zZ X WC zeV) 153 [some (.ref a0), some (.ref x1), some (.ref x2), none, some (.int x4), some (.int x5)] [] σ (f_X2_find_153 a0 H116 x1 x2 x4 x5 σ) := by
  unfold f_X2_find_153
  refine z_iinc5 80 156 rfl rfl ci_1 rfl (fun v1 => ?_)
  refine z_goto 81 116 rfl (by decide) ?_
  exact hH116 x1 x2 x4 v1 σ
def f_X2_find_116 (a0 : Nat) : Nat → Nat → Nat → Int32 → Int32 → zS → Option (Unit × zS)
  | 0, _, _, _, _, _ => none
  | n + 1, x1, x2, x4, x5, σ => zbr (x4 ≤ x5) (some ((), σ)) (zbr ((729 : Int32) ≤ x5) (some ((), σ)) (zbd (f_X2_fill a0 x1 x5 σ) (fun r2 σ3 => zbd (f_X2_isAsTold a0 x1 x2 σ3) (fun r4 σ5 => zbr (r4 = 0) (f_X2_find_153 a0 (f_X2_find_116 a0 n) x1 x2 x4 x5 σ5) (zbd (f_X2_keep a0 x5 σ5) (fun r6 σ7 => f_X2_find_153 a0 (f_X2_find_116 a0 n) x1 x2 x4 x5 σ7))))))
theorem t_X2_find_116 (X : zX) (d : Nat) (hd : 3 ≤ d + 1) (a0 : Nat) (h0 : WC.2 a0 = (2, 0)) : ∀ (n : Nat) (x1 : Nat) (x2 : Nat) (x4 : Int32) (x5 : Int32) (σ : zS), zK X WC (zrm (d + 1)) M_X2_find (zZ X WC zeV) 116 [some (.ref a0), some (.ref x1), some (.ref x2), none, some (.int x4), some (.int x5)] [] σ (f_X2_find_116 a0 n x1 x2 x4 x5 σ) := by
  intro n
  induction n with
  | zero => intro x1 x2 x4 x5 σ; exact z_none
  | succ n ih =>
    intro x1 x2 x4 x5 σ
    rw [f_X2_find_116]
    refine z_iload5 62 118 rfl rfl ?_
    refine z_iload4 63 120 rfl rfl ?_
    refine z_icmp_ge 64 123 159 rfl rfl (by decide) ?_ ?_
    · exact z_vret 82 rfl rfl
    · refine z_iload5 65 125 rfl rfl ?_
      refine z_sipush 66 128 rfl rfl cs_729 ?_
      refine z_icmp_ge 67 131 159 rfl rfl (by decide) ?_ ?_
      · exact z_vret 82 rfl rfl
      · refine z_aload0 68 132 rfl rfl ?_
        refine z_aload1 69 133 rfl rfl ?_
        refine z_iload5 70 135 rfl rfl ?_
        refine z_cV2V 71 138 rfl rfl zl_X2_79 F_X2_fill (zR_rm (by omega)) (c_X2_fill X d (by omega) a0 x1 x5 σ) ⟨by decide, rfl, rfl⟩ h0 rfl (Nat.le_of_ble_eq_true rfl) (fun r2 σ3 => ?_)
        refine z_aload0 72 139 rfl rfl ?_
        refine z_aload1 73 140 rfl rfl ?_
        refine z_aload2 74 141 rfl rfl ?_
        refine z_cV2I 75 144 rfl rfl zl_X2_82 F_X2_isAsTold (zR_rm (by omega)) (c_X2_isAsTold X d (by omega) a0 x1 x2 σ3) ⟨by decide, rfl, rfl⟩ h0 rfl (Nat.le_of_ble_eq_true rfl) (fun r4 σ5 => ?_)
        refine z_if_eq 76 147 153 rfl rfl (by decide) ?_ ?_
        · exact t_X2_find_153 X d hd a0 h0 (f_X2_find_116 a0 n) ih x1 x2 x4 x5 σ5
        · refine z_aload0 77 148 rfl rfl ?_
          refine z_iload5 78 150 rfl rfl ?_
          refine z_cV1V 79 153 rfl rfl zl_X2_86 F_X2_keep (zR_rm (by omega)) (c_X2_keep X d (by omega) a0 x5 σ5) ⟨by decide, rfl, rfl⟩ h0 rfl (Nat.le_of_ble_eq_true rfl) (fun r6 σ7 => ?_)
          exact t_X2_find_153 X d hd a0 h0 (f_X2_find_116 a0 n) ih x1 x2 x4 x5 σ7
def f_X2_find_57 (a0 : Nat) : Nat → Nat → Nat → Int32 → Int32 → zS → Option (Unit × zS)
  | 0, _, _, _, _, _ => none
  | n + 1, x1, x2, x3, x4, σ => zck (WC.2 x1 = (3, 0)) (zbr ((σ.1 x1 13) ≤ x4) (zbd (f_X2_stepOf a0 (-1 : Int32) σ) (fun r9 σ10 => zlt r9 (fun v11 => zlt (0 : Int32) (fun v12 => f_X2_find_116 a0 FU x1 x2 v11 v12 σ10)))) (zck (WC.2 (σ.2 x1 7) = (6, 0)) (zbd (f_X6_placesOf (σ.2 x1 7) x4 x3 σ) (fun r14 σ15 => zck (zok 100 (WC.2 (σ.2 a0 2)) x4) (zlt (zpi σ15 (σ.2 a0 2) x4.toNatClampNeg r14) (fun σ16 => zck (WC.2 (σ16.2 x1 7) = (6, 0)) (zbd (f_X6_dosOf (σ16.2 x1 7) x4 x3 σ16) (fun r18 σ19 => zck (zok 100 (WC.2 (σ16.2 a0 3)) x4) (zlt (zpi σ19 (σ16.2 a0 3) x4.toNatClampNeg r18) (fun σ20 => zlt (x4 + (1 : Int32)) (fun v21 => f_X2_find_57 a0 n x1 x2 x3 v21 σ20)))))))))))
theorem t_X2_find_57 (X : zX) (d : Nat) (hd : 3 ≤ d + 1) (a0 : Nat) (h0 : WC.2 a0 = (2, 0)) : ∀ (n : Nat) (x1 : Nat) (x2 : Nat) (x3 : Int32) (x4 : Int32) (σ : zS), zK X WC (zrm (d + 1)) M_X2_find (zZ X WC zeV) 57 [some (.ref a0), some (.ref x1), some (.ref x2), some (.int x3), some (.int x4), none] [] σ (f_X2_find_57 a0 n x1 x2 x3 x4 σ) := by
  intro n
  induction n with
  | zero => intro x1 x2 x3 x4 σ; exact z_none
  | succ n ih =>
    intro x1 x2 x3 x4 σ
    rw [f_X2_find_57]
    refine z_iload4 32 59 rfl rfl ?_
    refine z_aload1 33 60 rfl rfl ?_
    refine z_ck (fun h8 => ?_)
    refine z_getI 34 63 13 rfl rfl zf_X2_46 rfl h8 ?_
    refine z_icmp_ge 35 66 106 rfl rfl (by decide) ?_ ?_
    · refine z_aload0 56 107 rfl rfl ?_
      refine z_iconst 57 108 rfl rfl ci_m1 ?_
      refine z_cV1I 58 111 rfl rfl zl_X2_75 F_X2_stepOf (zR_rm (by omega)) (c_X2_stepOf X d a0 (-1 : Int32) σ) ⟨by decide, rfl, rfl⟩ h0 rfl (Nat.le_of_ble_eq_true rfl) (fun r9 σ10 => ?_)
      refine z_istore4 59 113 rfl rfl rfl (fun v11 => ?_)
      refine z_iconst 60 114 rfl rfl ci_0 ?_
      refine z_istore5 61 116 rfl rfl rfl (fun v12 => ?_)
      exact z_wk (zle_e (zle_e (zle_e (zle_n (zle_e (zle_e zle_0)))))) (t_X2_find_116 X d hd a0 h0  FU x1 x2 v11 v12 σ10)
    · refine z_aload0 36 67 rfl rfl ?_
      refine z_getR 37 70 2 rfl rfl zf_X2_18 rfl h0 ?_
      refine z_iload4 38 72 rfl rfl ?_
      refine z_aload1 39 73 rfl rfl ?_
      refine z_getR 40 76 7 rfl rfl zf_X2_58 rfl h8 ?_
      refine z_iload4 41 78 rfl rfl ?_
      refine z_iload3 42 79 rfl rfl ?_
      refine z_ck (fun h13 => ?_)
      refine z_cV2I 43 82 rfl rfl zl_X2_68 F_X6_placesOf (zR_rm (by omega)) (c_X6_placesOf X d (σ.2 x1 7) x4 x3 σ) ⟨by decide, rfl, rfl⟩ h13 rfl (Nat.le_of_ble_eq_true rfl) (fun r14 σ15 => ?_)
      refine z_iast 44 83 rfl rfl (fun σ16 => ?_)
      refine z_aload0 45 84 rfl rfl ?_
      refine z_getR 46 87 3 rfl rfl zf_X2_21 rfl h0 ?_
      refine z_iload4 47 89 rfl rfl ?_
      refine z_aload1 48 90 rfl rfl ?_
      refine z_getR 49 93 7 rfl rfl zf_X2_58 rfl h8 ?_
      refine z_iload4 50 95 rfl rfl ?_
      refine z_iload3 51 96 rfl rfl ?_
      refine z_ck (fun h17 => ?_)
      refine z_cV2I 52 99 rfl rfl zl_X2_72 F_X6_dosOf (zR_rm (by omega)) (c_X6_dosOf X d (σ16.2 x1 7) x4 x3 σ16) ⟨by decide, rfl, rfl⟩ h17 rfl (Nat.le_of_ble_eq_true rfl) (fun r18 σ19 => ?_)
      refine z_iast 53 100 rfl rfl (fun σ20 => ?_)
      refine z_iinc4 54 103 rfl rfl ci_1 rfl (fun v21 => ?_)
      refine z_goto 55 57 rfl (by decide) ?_
      exact ih x1 x2 x3 v21 σ20
def f_X2_find (a0 : Nat) (x1 : Nat) (x2 : Nat) (σ : zS) : Option (Unit × zS) := zck (WC.2 a0 = (2, 0)) (zbr ((σ.1 a0 6) = 0) (zck (zb (1 : Int32)) (zlt (zpi σ a0 6 (1 : Int32)) (fun σ22 => zlt (zpi σ22 a0 7 (0 : Int32)) (fun σ23 => zck (WC.2 x1 = (3, 0)) (zlt (zpi σ23 a0 8 (σ23.1 x1 14)) (fun σ25 => zlt (zpi σ25 a0 9 (((2 : Int32) * (σ25.1 x1 13)) + (1 : Int32))) (fun σ26 => zbd (f_J7_fill WC (σ26.2 a0 1) (0 : Int32) σ26) (fun r27 σ28 => zck (WC.2 (σ28.2 x1 7) = (6, 0)) (zbd (f_X6_read (σ28.2 x1 7) σ28) (fun r30 σ31 => zlt r30 (fun v32 => zlt (0 : Int32) (fun v33 => f_X2_find_57 a0 FU x1 x2 v32 v33 σ31)))))))))))) (some ((), σ)))
theorem c_X2_find (X : zX) (d : Nat) (hd : 3 ≤ d) (a0 : Nat) (x1 : Nat) (x2 : Nat) (σ : zS) : ∀ (r : Unit) (σ' : zS), f_X2_find a0 x1 x2 σ = some (r, σ') → zCN X WC d M_X2_find [.ref a0, .ref x1, .ref x2] σ (zeV r, σ') := by
  obtain ⟨d, rfl⟩ : ∃ e, d = e + 1 := ⟨d - 1, by omega⟩
  refine z_entry [.ref a0, .ref x1, .ref x2] (by decide +kernel) T_X2_find (Nat.le_of_ble_eq_true rfl) ?_
  show zK X WC (zrm (d + 1)) M_X2_find (zZ X WC zeV) 0 [some (.ref a0), some (.ref x1), some (.ref x2), none, none, none] [] σ (f_X2_find a0 x1 x2 σ)
  unfold f_X2_find
  refine z_ck (fun h0 => ?_)
  refine z_aload0 0 1 rfl rfl ?_
  refine z_getI 1 4 6 rfl rfl zf_X2_30 rfl h0 ?_
  refine z_if_eq 2 7 8 rfl rfl (by decide) ?_ ?_
  · refine z_aload0 4 9 rfl rfl ?_
    refine z_iconst 5 10 rfl rfl ci_1 ?_
    refine z_putZ 6 13 6 rfl rfl zf_X2_30 rfl rfl rfl h0 (fun σ22 => ?_)
    refine z_aload0 7 14 rfl rfl ?_
    refine z_iconst 8 15 rfl rfl ci_0 ?_
    refine z_putI 9 18 7 rfl rfl zf_X2_34 rfl rfl rfl h0 (fun σ23 => ?_)
    refine z_aload0 10 19 rfl rfl ?_
    refine z_aload1 11 20 rfl rfl ?_
    refine z_ck (fun h24 => ?_)
    refine z_getI 12 23 14 rfl rfl zf_X2_38 rfl h24 ?_
    refine z_putI 13 26 8 rfl rfl zf_X2_43 rfl rfl rfl h0 (fun σ25 => ?_)
    refine z_aload0 14 27 rfl rfl ?_
    refine z_iconst 15 28 rfl rfl ci_2 ?_
    refine z_aload1 16 29 rfl rfl ?_
    refine z_getI 17 32 13 rfl rfl zf_X2_46 rfl h24 ?_
    refine z_imul 18 33 rfl rfl ?_
    refine z_iconst 19 34 rfl rfl ci_1 ?_
    refine z_iadd 20 35 rfl rfl ?_
    refine z_putI 21 38 9 rfl rfl zf_X2_49 rfl rfl rfl h0 (fun σ26 => ?_)
    refine z_aload0 22 39 rfl rfl ?_
    refine z_getR 23 42 1 rfl rfl zf_X2_15 rfl h0 ?_
    refine z_iconst 24 43 rfl rfl ci_0 ?_
    refine z_cS2V 25 46 rfl rfl zl_X2_52 F_J7_fill (zR_rm (by omega)) (c_J7_fill X WC d (σ26.2 a0 1) (0 : Int32) σ26) rfl (Nat.le_of_ble_eq_true rfl) (fun r27 σ28 => ?_)
    refine z_aload1 26 47 rfl rfl ?_
    refine z_getR 27 50 7 rfl rfl zf_X2_58 rfl h24 ?_
    refine z_ck (fun h29 => ?_)
    refine z_cV0I 28 53 rfl rfl zl_X2_62 F_X6_read (zR_rm (by omega)) (c_X6_read X d (σ28.2 x1 7) σ28) ⟨by decide, rfl, rfl⟩ h29 rfl (Nat.le_of_ble_eq_true rfl) (fun r30 σ31 => ?_)
    refine z_istore3 29 54 rfl rfl rfl (fun v32 => ?_)
    refine z_iconst 30 55 rfl rfl ci_0 ?_
    refine z_istore4 31 57 rfl rfl rfl (fun v33 => ?_)
    exact t_X2_find_57 X d hd a0 h0  FU x1 x2 v32 v33 σ31
  · exact z_vret 3 rfl rfl
def f_X2_saying (a0 : Nat) (x1 : Int32) (x2 : Int32) (σ : zS) : Option (Int32 × zS) := zck (WC.2 a0 = (2, 0)) (zbr (x1 < 0) (some ((0 : Int32), σ)) (zbr ((σ.1 a0 7) ≤ x1) (some ((0 : Int32), σ)) (zck (zok 100 (WC.2 (σ.2 a0 0)) x1) (zbd (f_X2_digit a0 (σ.1 (σ.2 a0 0) x1.toNatClampNeg) x2 σ) (fun r1 σ2 => some (r1, σ2))))))
theorem c_X2_saying (X : zX) (d : Nat) (hd : 2 ≤ d) (a0 : Nat) (x1 : Int32) (x2 : Int32) (σ : zS) : ∀ (r : Int32) (σ' : zS), f_X2_saying a0 x1 x2 σ = some (r, σ') → zCN X WC d M_X2_saying [.ref a0, .int x1, .int x2] σ (zeI r, σ') := by
  obtain ⟨d, rfl⟩ : ∃ e, d = e + 1 := ⟨d - 1, by omega⟩
  refine z_entry [.ref a0, .int x1, .int x2] (by decide +kernel) T_X2_saying (Nat.le_of_ble_eq_true rfl) ?_
  show zK X WC (zrm (d + 1)) M_X2_saying (zZ X WC zeI) 0 [some (.ref a0), some (.int x1), some (.int x2)] [] σ (f_X2_saying a0 x1 x2 σ)
  unfold f_X2_saying
  refine z_ck (fun h0 => ?_)
  refine z_iload1 0 1 rfl rfl ?_
  refine z_if_lt 1 4 26 rfl rfl (by decide) ?_ ?_
  · refine z_iconst 14 27 rfl rfl ci_0 ?_
    exact z_iret 15 rfl rfl
  · refine z_iload1 2 5 rfl rfl ?_
    refine z_aload0 3 6 rfl rfl ?_
    refine z_getI 4 9 7 rfl rfl zf_X2_34 rfl h0 ?_
    refine z_icmp_ge 5 12 26 rfl rfl (by decide) ?_ ?_
    · refine z_iconst 14 27 rfl rfl ci_0 ?_
      exact z_iret 15 rfl rfl
    · refine z_aload0 6 13 rfl rfl ?_
      refine z_aload0 7 14 rfl rfl ?_
      refine z_getR 8 17 0 rfl rfl zf_X2_9 rfl h0 ?_
      refine z_iload1 9 18 rfl rfl ?_
      refine z_iald 10 19 rfl rfl ?_
      refine z_iload2 11 20 rfl rfl ?_
      refine z_cV2I 12 23 rfl rfl zl_X2_90 F_X2_digit (zR_rm (by omega)) (c_X2_digit X d (by omega) a0 (σ.1 (σ.2 a0 0) x1.toNatClampNeg) x2 σ) ⟨by decide, rfl, rfl⟩ h0 rfl (Nat.le_of_ble_eq_true rfl) (fun r1 σ2 => ?_)
      refine z_goto 13 27 rfl (by decide) ?_
      exact z_iret 15 rfl rfl
def f_X2_mostLeft_4 (a0 : Nat) : Nat → Int32 → Int32 → Int32 → zS → Option (Int32 × zS)
  | 0, _, _, _, _ => none
  | n + 1, x1, x2, x3, σ => zbr ((σ.1 a0 9) ≤ x3) (some (x2, σ)) (zck (zok 100 (WC.2 (σ.2 a0 1)) ((x1 * (9 : Int32)) + x3)) (zlt (if x2 < (σ.1 (σ.2 a0 1) ((x1 * (9 : Int32)) + x3).toNatClampNeg) then (σ.1 (σ.2 a0 1) ((x1 * (9 : Int32)) + x3).toNatClampNeg) else x2) (fun v1 => zlt (x3 + (1 : Int32)) (fun v2 => f_X2_mostLeft_4 a0 n x1 v1 v2 σ))))
theorem t_X2_mostLeft_4 (X : zX) (d : Nat) (hd : 1 ≤ d + 1) (a0 : Nat) (h0 : WC.2 a0 = (2, 0)) : ∀ (n : Nat) (x1 : Int32) (x2 : Int32) (x3 : Int32) (σ : zS), zK X WC (zrm (d + 1)) M_X2_mostLeft (zZ X WC zeI) 4 [some (.ref a0), some (.int x1), some (.int x2), some (.int x3)] [] σ (f_X2_mostLeft_4 a0 n x1 x2 x3 σ) := by
  intro n
  induction n with
  | zero => intro x1 x2 x3 σ; exact z_none
  | succ n ih =>
    intro x1 x2 x3 σ
    rw [f_X2_mostLeft_4]
    refine z_iload3 4 5 rfl rfl ?_
    refine z_aload0 5 6 rfl rfl ?_
    refine z_getI 6 9 9 rfl rfl zf_X2_49 rfl h0 ?_
    refine z_icmp_ge 7 12 34 rfl rfl (by decide) ?_ ?_
    · refine z_iload2 21 35 rfl rfl ?_
      exact z_iret 22 rfl rfl
    · refine z_iload2 8 13 rfl rfl ?_
      refine z_aload0 9 14 rfl rfl ?_
      refine z_getR 10 17 1 rfl rfl zf_X2_15 rfl h0 ?_
      refine z_iload1 11 18 rfl rfl ?_
      refine z_bipush 12 20 rfl rfl cb_9 ?_
      refine z_imul 13 21 rfl rfl ?_
      refine z_iload3 14 22 rfl rfl ?_
      refine z_iadd 15 23 rfl rfl ?_
      refine z_iald 16 24 rfl rfl ?_
      refine z_mmax 17 27 rfl rfl zl_X2_104 (zR_rm (Nat.le_refl (d + 1))) rfl (Nat.le_of_ble_eq_true rfl) ?_
      refine z_istore2 18 28 rfl rfl rfl (fun v1 => ?_)
      refine z_iinc3 19 31 rfl rfl ci_1 rfl (fun v2 => ?_)
      refine z_goto 20 4 rfl (by decide) ?_
      exact ih x1 v1 v2 σ
def f_X2_mostLeft (a0 : Nat) (x1 : Int32) (σ : zS) : Option (Int32 × zS) := zck (WC.2 a0 = (2, 0)) (zlt (0 : Int32) (fun v3 => zlt (0 : Int32) (fun v4 => f_X2_mostLeft_4 a0 FU x1 v3 v4 σ)))
theorem c_X2_mostLeft (X : zX) (d : Nat) (hd : 1 ≤ d) (a0 : Nat) (x1 : Int32) (σ : zS) : ∀ (r : Int32) (σ' : zS), f_X2_mostLeft a0 x1 σ = some (r, σ') → zCN X WC d M_X2_mostLeft [.ref a0, .int x1] σ (zeI r, σ') := by
  obtain ⟨d, rfl⟩ : ∃ e, d = e + 1 := ⟨d - 1, by omega⟩
  refine z_entry [.ref a0, .int x1] (by decide +kernel) T_X2_mostLeft (Nat.le_of_ble_eq_true rfl) ?_
  show zK X WC (zrm (d + 1)) M_X2_mostLeft (zZ X WC zeI) 0 [some (.ref a0), some (.int x1), none, none] [] σ (f_X2_mostLeft a0 x1 σ)
  unfold f_X2_mostLeft
  refine z_ck (fun h0 => ?_)
  refine z_iconst 0 1 rfl rfl ci_0 ?_
  refine z_istore2 1 2 rfl rfl rfl (fun v3 => ?_)
  refine z_iconst 2 3 rfl rfl ci_0 ?_
  refine z_istore3 3 4 rfl rfl rfl (fun v4 => ?_)
  exact t_X2_mostLeft_4 X d hd a0 h0  FU x1 v3 v4 σ
def f_X2_lineToAsk_42 (a0 : Nat) (H9 : Int32 → Int32 → Int32 → zS → Option (Int32 × zS)) (x1 : Int32) (x2 : Int32) (x3 : Int32) (σ : zS) : Option (Int32 × zS) := zlt (x3 + (1 : Int32)) (fun v1 => H9 x1 x2 v1 σ)
theorem t_X2_lineToAsk_42 (X : zX) (d : Nat) (hd : 2 ≤ d + 1) (a0 : Nat) (h0 : WC.2 a0 = (2, 0)) (H9 : Int32 → Int32 → Int32 → zS → Option (Int32 × zS)) (hH9 : ∀ (x1 : Int32) (x2 : Int32) (x3 : Int32) (σ : zS), zK X WC (zrm (d + 1)) M_X2_lineToAsk (zZ X WC zeI) 9 [some (.ref a0), some (.int x1), some (.int x2), some (.int x3), none] [] σ (H9 x1 x2 x3 σ)) (x1 : Int32) (x2 : Int32) (x3 : Int32) (σ : zS) : zK X WC (zrm (d + 1)) M_X2_lineToAsk (zZ X WC zeI) 42 [some (.ref a0), some (.int x1), some (.int x2), some (.int x3), none] [] σ (f_X2_lineToAsk_42 a0 H9 x1 x2 x3 σ) := by
  unfold f_X2_lineToAsk_42
  refine z_iinc3 24 45 rfl rfl ci_1 rfl (fun v1 => ?_)
  refine z_goto 25 9 rfl (by decide) ?_
  exact hH9 x1 x2 v1 σ
def f_X2_lineToAsk_9 (a0 : Nat) : Nat → Int32 → Int32 → Int32 → zS → Option (Int32 × zS)
  | 0, _, _, _, _ => none
  | n + 1, x1, x2, x3, σ => zbr ((σ.1 a0 8) ≤ x3) (some (x1, σ)) (zbr ((σ.1 a0 7) ≤ 0) (some (x1, σ)) (zbd (f_X2_mostLeft a0 x3 σ) (fun r2 σ3 => zlt r2 (fun v4 => zbr (x2 ≤ v4) (f_X2_lineToAsk_42 a0 (f_X2_lineToAsk_9 a0 n) x1 x2 x3 σ3) (zlt v4 (fun v5 => zlt x3 (fun v6 => f_X2_lineToAsk_42 a0 (f_X2_lineToAsk_9 a0 n) v6 v5 x3 σ3)))))))
theorem t_X2_lineToAsk_9 (X : zX) (d : Nat) (hd : 2 ≤ d + 1) (a0 : Nat) (h0 : WC.2 a0 = (2, 0)) : ∀ (n : Nat) (x1 : Int32) (x2 : Int32) (x3 : Int32) (σ : zS), zK X WC (zrm (d + 1)) M_X2_lineToAsk (zZ X WC zeI) 9 [some (.ref a0), some (.int x1), some (.int x2), some (.int x3), none] [] σ (f_X2_lineToAsk_9 a0 n x1 x2 x3 σ) := by
  intro n
  induction n with
  | zero => intro x1 x2 x3 σ; exact z_none
  | succ n ih =>
    intro x1 x2 x3 σ
    rw [f_X2_lineToAsk_9]
    refine z_iload3 6 10 rfl rfl ?_
    refine z_aload0 7 11 rfl rfl ?_
    refine z_getI 8 14 8 rfl rfl zf_X2_43 rfl h0 ?_
    refine z_icmp_ge 9 17 48 rfl rfl (by decide) ?_ ?_
    · refine z_iload1 26 49 rfl rfl ?_
      exact z_iret 27 rfl rfl
    · refine z_aload0 10 18 rfl rfl ?_
      refine z_getI 11 21 7 rfl rfl zf_X2_34 rfl h0 ?_
      refine z_if_le 12 24 48 rfl rfl (by decide) ?_ ?_
      · refine z_iload1 26 49 rfl rfl ?_
        exact z_iret 27 rfl rfl
      · refine z_aload0 13 25 rfl rfl ?_
        refine z_iload3 14 26 rfl rfl ?_
        refine z_cV1I 15 29 rfl rfl zl_X2_109 F_X2_mostLeft (zR_rm (by omega)) (c_X2_mostLeft X d (by omega) a0 x3 σ) ⟨by decide, rfl, rfl⟩ h0 rfl (Nat.le_of_ble_eq_true rfl) (fun r2 σ3 => ?_)
        refine z_istore4 16 31 rfl rfl rfl (fun v4 => ?_)
        refine z_iload4 17 33 rfl rfl ?_
        refine z_iload2 18 34 rfl rfl ?_
        refine z_icmp_ge 19 37 42 rfl rfl (by decide) ?_ ?_
        · exact z_wk (zle_e (zle_e (zle_e (zle_e (zle_n zle_0))))) (t_X2_lineToAsk_42 X d hd a0 h0 (f_X2_lineToAsk_9 a0 n) ih x1 x2 x3 σ3)
        · refine z_iload4 20 39 rfl rfl ?_
          refine z_istore2 21 40 rfl rfl rfl (fun v5 => ?_)
          refine z_iload3 22 41 rfl rfl ?_
          refine z_istore1 23 42 rfl rfl rfl (fun v6 => ?_)
          exact z_wk (zle_e (zle_e (zle_e (zle_e (zle_n zle_0))))) (t_X2_lineToAsk_42 X d hd a0 h0 (f_X2_lineToAsk_9 a0 n) ih v6 v5 x3 σ3)
def f_X2_lineToAsk (a0 : Nat) (σ : zS) : Option (Int32 × zS) := zck (WC.2 a0 = (2, 0)) (zlt (-2 : Int32) (fun v7 => zlt (730 : Int32) (fun v8 => zlt (0 : Int32) (fun v9 => f_X2_lineToAsk_9 a0 FU v7 v8 v9 σ))))
theorem c_X2_lineToAsk (X : zX) (d : Nat) (hd : 2 ≤ d) (a0 : Nat) (σ : zS) : ∀ (r : Int32) (σ' : zS), f_X2_lineToAsk a0 σ = some (r, σ') → zCN X WC d M_X2_lineToAsk [.ref a0] σ (zeI r, σ') := by
  obtain ⟨d, rfl⟩ : ∃ e, d = e + 1 := ⟨d - 1, by omega⟩
  refine z_entry [.ref a0] (by decide +kernel) T_X2_lineToAsk (Nat.le_of_ble_eq_true rfl) ?_
  show zK X WC (zrm (d + 1)) M_X2_lineToAsk (zZ X WC zeI) 0 [some (.ref a0), none, none, none, none] [] σ (f_X2_lineToAsk a0 σ)
  unfold f_X2_lineToAsk
  refine z_ck (fun h0 => ?_)
  refine z_bipush 0 2 rfl rfl cb_m2 ?_
  refine z_istore1 1 3 rfl rfl rfl (fun v7 => ?_)
  refine z_sipush 2 6 rfl rfl cs_730 ?_
  refine z_istore2 3 7 rfl rfl rfl (fun v8 => ?_)
  refine z_iconst 4 8 rfl rfl ci_0 ?_
  refine z_istore3 5 9 rfl rfl rfl (fun v9 => ?_)
  exact t_X2_lineToAsk_9 X d hd a0 h0  FU v7 v8 v9 σ
def f_X8_lineWord (a0 : Nat) (σ : zS) : Option (Int32 × zS) := zck (WC.2 a0 = (8, 0)) (zck (WC.2 (σ.2 a0 0) = (9, 0)) (zbd (f_X9_isWord (σ.2 a0 0) (1000 + 0) σ) (fun r2 σ3 => zbr (r2 = 0) (zck (WC.2 (σ3.2 a0 0) = (9, 0)) (zbd (f_X9_isWord (σ3.2 a0 0) (1000 + 1) σ3) (fun r5 σ6 => zbr (r5 = 0) (zck (WC.2 (σ6.2 a0 0) = (9, 0)) (zbd (f_X9_isWord (σ6.2 a0 0) (1000 + 2) σ6) (fun r8 σ9 => zbr (r8 = 0) (zck (WC.2 (σ9.2 a0 0) = (9, 0)) (zbd (f_X9_isWord (σ9.2 a0 0) (1000 + 3) σ9) (fun r11 σ12 => zbr (r11 = 0) (zck (WC.2 (σ12.2 a0 0) = (9, 0)) (zbd (f_X9_isWord (σ12.2 a0 0) (1000 + 4) σ12) (fun r14 σ15 => zbr (r14 = 0) (zck (WC.2 (σ15.2 a0 0) = (9, 0)) (zbd (f_X9_isWord (σ15.2 a0 0) (1000 + 5) σ15) (fun r17 σ18 => zbr (r17 = 0) (zck (WC.2 (σ18.2 a0 0) = (9, 0)) (zbd (f_X9_isWord (σ18.2 a0 0) (1000 + 6) σ18) (fun r20 σ21 => zbr (r20 = 0) (zck (WC.2 (σ21.2 a0 0) = (9, 0)) (zbd (f_X9_isWord (σ21.2 a0 0) (1000 + 7) σ21) (fun r23 σ24 => zbr (r23 = 0) (zck (WC.2 (σ24.2 a0 0) = (9, 0)) (zbd (f_X9_isWord (σ24.2 a0 0) (1000 + 8) σ24) (fun r26 σ27 => zbr (r26 = 0) (some ((0 : Int32), σ27)) (some ((9 : Int32), σ27))))) (some ((8 : Int32), σ24))))) (some ((7 : Int32), σ21))))) (some ((6 : Int32), σ18))))) (some ((5 : Int32), σ15))))) (some ((4 : Int32), σ12))))) (some ((3 : Int32), σ9))))) (some ((2 : Int32), σ6))))) (some ((1 : Int32), σ3)))))
theorem c_X8_lineWord (X : zX) (d : Nat) (hd : 9 ≤ d) (a0 : Nat) (σ : zS) : ∀ (r : Int32) (σ' : zS), f_X8_lineWord a0 σ = some (r, σ') → zCN X WC d M_X8_lineWord [.ref a0] σ (zeI r, σ') := by
  obtain ⟨d, rfl⟩ : ∃ e, d = e + 1 := ⟨d - 1, by omega⟩
  refine z_entry [.ref a0] (by decide +kernel) T_X8_lineWord (Nat.le_of_ble_eq_true rfl) ?_
  show zK X WC (zrm (d + 1)) M_X8_lineWord (zZ X WC zeI) 0 [some (.ref a0)] [] σ (f_X8_lineWord a0 σ)
  unfold f_X8_lineWord
  refine z_ck (fun h0 => ?_)
  refine z_aload0 0 1 rfl rfl ?_
  refine z_getR 1 4 0 rfl rfl zf_X8_12 rfl h0 ?_
  refine z_ldcS 2 6 0 rfl rfl (tx := "lette\x72") (List.mem_of_getElem? (i := 0) rfl) ?_
  refine z_ck (fun h1 => ?_)
  refine z_cV1I 3 9 rfl rfl zl_X8_78 F_X9_isWord (zR_rm (by omega)) (c_X9_isWord X d (by omega) (σ.2 a0 0) (1000 + 0) σ) ⟨by decide, rfl, rfl⟩ h1 rfl (Nat.le_of_ble_eq_true rfl) (fun r2 σ3 => ?_)
  refine z_if_eq 4 12 14 rfl rfl (by decide) ?_ ?_
  · refine z_aload0 7 15 rfl rfl ?_
    refine z_getR 8 18 0 rfl rfl zf_X8_12 rfl h0 ?_
    refine z_ldcS 9 20 1 rfl rfl (tx := "place") (List.mem_of_getElem? (i := 1) rfl) ?_
    refine z_ck (fun h4 => ?_)
    refine z_cV1I 10 23 rfl rfl zl_X8_78 F_X9_isWord (zR_rm (by omega)) (c_X9_isWord X d (by omega) (σ3.2 a0 0) (1000 + 1) σ3) ⟨by decide, rfl, rfl⟩ h4 rfl (Nat.le_of_ble_eq_true rfl) (fun r5 σ6 => ?_)
    refine z_if_eq 11 26 28 rfl rfl (by decide) ?_ ?_
    · refine z_aload0 14 29 rfl rfl ?_
      refine z_getR 15 32 0 rfl rfl zf_X8_12 rfl h0 ?_
      refine z_ldcS 16 34 2 rfl rfl (tx := "ove\x72") (List.mem_of_getElem? (i := 2) rfl) ?_
      refine z_ck (fun h7 => ?_)
      refine z_cV1I 17 37 rfl rfl zl_X8_78 F_X9_isWord (zR_rm (by omega)) (c_X9_isWord X d (by omega) (σ6.2 a0 0) (1000 + 2) σ6) ⟨by decide, rfl, rfl⟩ h7 rfl (Nat.le_of_ble_eq_true rfl) (fun r8 σ9 => ?_)
      refine z_if_eq 18 40 42 rfl rfl (by decide) ?_ ?_
      · refine z_aload0 21 43 rfl rfl ?_
        refine z_getR 22 46 0 rfl rfl zf_X8_12 rfl h0 ?_
        refine z_ldcS 23 48 3 rfl rfl (tx := "hand") (List.mem_of_getElem? (i := 3) rfl) ?_
        refine z_ck (fun h10 => ?_)
        refine z_cV1I 24 51 rfl rfl zl_X8_78 F_X9_isWord (zR_rm (by omega)) (c_X9_isWord X d (by omega) (σ9.2 a0 0) (1000 + 3) σ9) ⟨by decide, rfl, rfl⟩ h10 rfl (Nat.le_of_ble_eq_true rfl) (fun r11 σ12 => ?_)
        refine z_if_eq 25 54 56 rfl rfl (by decide) ?_ ?_
        · refine z_aload0 28 57 rfl rfl ?_
          refine z_getR 29 60 0 rfl rfl zf_X8_12 rfl h0 ?_
          refine z_ldcS 30 62 4 rfl rfl (tx := "matte\x72") (List.mem_of_getElem? (i := 4) rfl) ?_
          refine z_ck (fun h13 => ?_)
          refine z_cV1I 31 65 rfl rfl zl_X8_78 F_X9_isWord (zR_rm (by omega)) (c_X9_isWord X d (by omega) (σ12.2 a0 0) (1000 + 4) σ12) ⟨by decide, rfl, rfl⟩ h13 rfl (Nat.le_of_ble_eq_true rfl) (fun r14 σ15 => ?_)
          refine z_if_eq 32 68 70 rfl rfl (by decide) ?_ ?_
          · refine z_aload0 35 71 rfl rfl ?_
            refine z_getR 36 74 0 rfl rfl zf_X8_12 rfl h0 ?_
            refine z_ldcS 37 76 5 rfl rfl (tx := "wrote") (List.mem_of_getElem? (i := 5) rfl) ?_
            refine z_ck (fun h16 => ?_)
            refine z_cV1I 38 79 rfl rfl zl_X8_78 F_X9_isWord (zR_rm (by omega)) (c_X9_isWord X d (by omega) (σ15.2 a0 0) (1000 + 5) σ15) ⟨by decide, rfl, rfl⟩ h16 rfl (Nat.le_of_ble_eq_true rfl) (fun r17 σ18 => ?_)
            refine z_if_eq 39 82 85 rfl rfl (by decide) ?_ ?_
            · refine z_aload0 42 86 rfl rfl ?_
              refine z_getR 43 89 0 rfl rfl zf_X8_12 rfl h0 ?_
              refine z_ldcS 44 91 6 rfl rfl (tx := "hidden") (List.mem_of_getElem? (i := 6) rfl) ?_
              refine z_ck (fun h19 => ?_)
              refine z_cV1I 45 94 rfl rfl zl_X8_78 F_X9_isWord (zR_rm (by omega)) (c_X9_isWord X d (by omega) (σ18.2 a0 0) (1000 + 6) σ18) ⟨by decide, rfl, rfl⟩ h19 rfl (Nat.le_of_ble_eq_true rfl) (fun r20 σ21 => ?_)
              refine z_if_eq 46 97 100 rfl rfl (by decide) ?_ ?_
              · refine z_aload0 49 101 rfl rfl ?_
                refine z_getR 50 104 0 rfl rfl zf_X8_12 rfl h0 ?_
                refine z_ldcS 51 106 7 rfl rfl (tx := "done") (List.mem_of_getElem? (i := 7) rfl) ?_
                refine z_ck (fun h22 => ?_)
                refine z_cV1I 52 109 rfl rfl zl_X8_78 F_X9_isWord (zR_rm (by omega)) (c_X9_isWord X d (by omega) (σ21.2 a0 0) (1000 + 7) σ21) ⟨by decide, rfl, rfl⟩ h22 rfl (Nat.le_of_ble_eq_true rfl) (fun r23 σ24 => ?_)
                refine z_if_eq 53 112 115 rfl rfl (by decide) ?_ ?_
                · refine z_aload0 56 116 rfl rfl ?_
                  refine z_getR 57 119 0 rfl rfl zf_X8_12 rfl h0 ?_
                  refine z_ldcS 58 121 8 rfl rfl (tx := "bid") (List.mem_of_getElem? (i := 8) rfl) ?_
                  refine z_ck (fun h25 => ?_)
                  refine z_cV1I 59 124 rfl rfl zl_X8_78 F_X9_isWord (zR_rm (by omega)) (c_X9_isWord X d (by omega) (σ24.2 a0 0) (1000 + 8) σ24) ⟨by decide, rfl, rfl⟩ h25 rfl (Nat.le_of_ble_eq_true rfl) (fun r26 σ27 => ?_)
                  refine z_if_eq 60 127 132 rfl rfl (by decide) ?_ ?_
                  · refine z_iconst 63 133 rfl rfl ci_0 ?_
                    exact z_iret 64 rfl rfl
                  · refine z_bipush 61 129 rfl rfl cb_9 ?_
                    refine z_goto 62 133 rfl (by decide) ?_
                    exact z_iret 64 rfl rfl
                · refine z_bipush 54 114 rfl rfl cb_8 ?_
                  exact z_iret 55 rfl rfl
              · refine z_bipush 47 99 rfl rfl cb_7 ?_
                exact z_iret 48 rfl rfl
            · refine z_bipush 40 84 rfl rfl cb_6 ?_
              exact z_iret 41 rfl rfl
          · refine z_iconst 33 69 rfl rfl ci_5 ?_
            exact z_iret 34 rfl rfl
        · refine z_iconst 26 55 rfl rfl ci_4 ?_
          exact z_iret 27 rfl rfl
      · refine z_iconst 19 41 rfl rfl ci_3 ?_
        exact z_iret 20 rfl rfl
    · refine z_iconst 12 27 rfl rfl ci_2 ?_
      exact z_iret 13 rfl rfl
  · refine z_iconst 5 13 rfl rfl ci_1 ?_
    exact z_iret 6 rfl rfl
def f_X8_blameAt (a0 : Nat) (x1 : Int32) (x2 : Int32) (σ : zS) : Option (Int32 × zS) := zck (WC.2 a0 = (8, 0)) (zlt (zpi σ a0 3 x1) (fun σ1 => zlt (zpi σ1 a0 4 x2) (fun σ2 => zck (zb (0 : Int32)) (some ((0 : Int32), σ2)))))
theorem c_X8_blameAt (X : zX) (d : Nat) (a0 : Nat) (x1 : Int32) (x2 : Int32) (σ : zS) : ∀ (r : Int32) (σ' : zS), f_X8_blameAt a0 x1 x2 σ = some (r, σ') → zCN X WC d M_X8_blameAt [.ref a0, .int x1, .int x2] σ (zeI r, σ') := by
  refine z_entry [.ref a0, .int x1, .int x2] (by decide +kernel) T_X8_blameAt (Nat.le_of_ble_eq_true rfl) ?_
  show zK X WC (zrm d) M_X8_blameAt (zZ X WC zeI) 0 [some (.ref a0), some (.int x1), some (.int x2)] [] σ (f_X8_blameAt a0 x1 x2 σ)
  unfold f_X8_blameAt
  refine z_ck (fun h0 => ?_)
  refine z_aload0 0 1 rfl rfl ?_
  refine z_iload1 1 2 rfl rfl ?_
  refine z_putI 2 5 3 rfl rfl zf_X8_39 rfl rfl rfl h0 (fun σ1 => ?_)
  refine z_aload0 3 6 rfl rfl ?_
  refine z_iload2 4 7 rfl rfl ?_
  refine z_putI 5 10 4 rfl rfl zf_X8_42 rfl rfl rfl h0 (fun σ2 => ?_)
  refine z_iconst 6 11 rfl rfl ci_0 ?_
  exact z_zret 7 rfl rfl
def f_X8_blame (a0 : Nat) (x1 : Int32) (σ : zS) : Option (Int32 × zS) := zck (WC.2 a0 = (8, 0)) (zck (WC.2 (σ.2 a0 0) = (9, 0)) (zbd (f_X8_blameAt a0 x1 (σ.1 (σ.2 a0 0) 3) σ) (fun r2 σ3 => zck (zb r2) (some (r2, σ3)))))
theorem c_X8_blame (X : zX) (d : Nat) (hd : 1 ≤ d) (a0 : Nat) (x1 : Int32) (σ : zS) : ∀ (r : Int32) (σ' : zS), f_X8_blame a0 x1 σ = some (r, σ') → zCN X WC d M_X8_blame [.ref a0, .int x1] σ (zeI r, σ') := by
  obtain ⟨d, rfl⟩ : ∃ e, d = e + 1 := ⟨d - 1, by omega⟩
  refine z_entry [.ref a0, .int x1] (by decide +kernel) T_X8_blame (Nat.le_of_ble_eq_true rfl) ?_
  show zK X WC (zrm (d + 1)) M_X8_blame (zZ X WC zeI) 0 [some (.ref a0), some (.int x1)] [] σ (f_X8_blame a0 x1 σ)
  unfold f_X8_blame
  refine z_ck (fun h0 => ?_)
  refine z_aload0 0 1 rfl rfl ?_
  refine z_iload1 1 2 rfl rfl ?_
  refine z_aload0 2 3 rfl rfl ?_
  refine z_getR 3 6 0 rfl rfl zf_X8_12 rfl h0 ?_
  refine z_ck (fun h1 => ?_)
  refine z_getI 4 9 3 rfl rfl zf_X8_69 rfl h1 ?_
  refine z_cV2I 5 12 rfl rfl zl_X8_72 F_X8_blameAt (zR_rm (by omega)) (c_X8_blameAt X d a0 x1 (σ.1 (σ.2 a0 0) 3) σ) ⟨by decide, rfl, rfl⟩ h0 rfl (Nat.le_of_ble_eq_true rfl) (fun r2 σ3 => ?_)
  exact z_zret 6 rfl rfl
def f_X8_passWord (a0 : Nat) (x1 : Nat) (σ : zS) : Option (Int32 × zS) := zck (WC.2 a0 = (8, 0)) (zck (WC.2 (σ.2 a0 0) = (9, 0)) (zbd (f_X9_isWord (σ.2 a0 0) x1 σ) (fun r2 σ3 => zbr (r2 = 0) (zbd (f_X8_blame a0 (1 : Int32) σ3) (fun r4 σ5 => zck (zb r4) (some (r4, σ5)))) (zck (WC.2 (σ3.2 a0 0) = (9, 0)) (zbd (f_X9_next (σ3.2 a0 0) σ3) (fun r7 σ8 => zck (zb (1 : Int32)) (some ((1 : Int32), σ8))))))))
theorem c_X8_passWord (X : zX) (d : Nat) (hd : 9 ≤ d) (a0 : Nat) (x1 : Nat) (σ : zS) : ∀ (r : Int32) (σ' : zS), f_X8_passWord a0 x1 σ = some (r, σ') → zCN X WC d M_X8_passWord [.ref a0, .ref x1] σ (zeI r, σ') := by
  obtain ⟨d, rfl⟩ : ∃ e, d = e + 1 := ⟨d - 1, by omega⟩
  refine z_entry [.ref a0, .ref x1] (by decide +kernel) T_X8_passWord (Nat.le_of_ble_eq_true rfl) ?_
  show zK X WC (zrm (d + 1)) M_X8_passWord (zZ X WC zeI) 0 [some (.ref a0), some (.ref x1)] [] σ (f_X8_passWord a0 x1 σ)
  unfold f_X8_passWord
  refine z_ck (fun h0 => ?_)
  refine z_aload0 0 1 rfl rfl ?_
  refine z_getR 1 4 0 rfl rfl zf_X8_12 rfl h0 ?_
  refine z_aload1 2 5 rfl rfl ?_
  refine z_ck (fun h1 => ?_)
  refine z_cV1I 3 8 rfl rfl zl_X8_78 F_X9_isWord (zR_rm (by omega)) (c_X9_isWord X d (by omega) (σ.2 a0 0) x1 σ) ⟨by decide, rfl, rfl⟩ h1 rfl (Nat.le_of_ble_eq_true rfl) (fun r2 σ3 => ?_)
  refine z_if_ne 4 11 17 rfl rfl (by decide) ?_ ?_
  · refine z_aload0 5 12 rfl rfl ?_
    refine z_iconst 6 13 rfl rfl ci_1 ?_
    refine z_cV1I 7 16 rfl rfl zl_X8_62 F_X8_blame (zR_rm (by omega)) (c_X8_blame X d (by omega) a0 (1 : Int32) σ3) ⟨by decide, rfl, rfl⟩ h0 rfl (Nat.le_of_ble_eq_true rfl) (fun r4 σ5 => ?_)
    exact z_zret 8 rfl rfl
  · refine z_aload0 9 18 rfl rfl ?_
    refine z_getR 10 21 0 rfl rfl zf_X8_12 rfl h0 ?_
    refine z_ck (fun h6 => ?_)
    refine z_cV0V 11 24 rfl rfl zl_X8_56 F_X9_next (zR_rm (by omega)) (c_X9_next X d (by omega) (σ3.2 a0 0) σ3) ⟨by decide, rfl, rfl⟩ h6 rfl (Nat.le_of_ble_eq_true rfl) (fun r7 σ8 => ?_)
    refine z_iconst 12 25 rfl rfl ci_1 ?_
    exact z_zret 13 rfl rfl
def f_X8_isWhole_47 (a0 : Nat)  (σ : zS) : Option (Int32 × zS) := zck (zb (1 : Int32)) (some ((1 : Int32), σ))
theorem t_X8_isWhole_47 (X : zX) (d : Nat) (hd : 2 ≤ d + 1) (a0 : Nat) (h0 : WC.2 a0 = (8, 0))  (σ : zS) : zK X WC (zrm (d + 1)) M_X8_isWhole (zZ X WC zeI) 47 [some (.ref a0), none, none] [] σ (f_X8_isWhole_47 a0 σ) := by
  unfold f_X8_isWhole_47
  refine z_iconst 23 48 rfl rfl ci_1 ?_
  refine z_goto 24 52 rfl (by decide) ?_
  exact z_zret 26 rfl rfl
def f_X8_isWhole_39 (a0 : Nat)  (σ : zS) : Option (Int32 × zS) := zbd (f_X8_blame a0 (4 : Int32) σ) (fun r1 σ2 => zbr (r1 = 0) (zck (zb (0 : Int32)) (some ((0 : Int32), σ2))) (f_X8_isWhole_47 a0 σ2))
theorem t_X8_isWhole_39 (X : zX) (d : Nat) (hd : 2 ≤ d + 1) (a0 : Nat) (h0 : WC.2 a0 = (8, 0))  (σ : zS) : zK X WC (zrm (d + 1)) M_X8_isWhole (zZ X WC zeI) 39 [some (.ref a0), none, none] [] σ (f_X8_isWhole_39 a0 σ) := by
  unfold f_X8_isWhole_39
  refine z_aload0 19 40 rfl rfl ?_
  refine z_iconst 20 41 rfl rfl ci_4 ?_
  refine z_cV1I 21 44 rfl rfl zl_X8_62 F_X8_blame (zR_rm (by omega)) (c_X8_blame X d (by omega) a0 (4 : Int32) σ) ⟨by decide, rfl, rfl⟩ h0 rfl (Nat.le_of_ble_eq_true rfl) (fun r1 σ2 => ?_)
  refine z_if_eq 22 47 51 rfl rfl (by decide) ?_ ?_
  · refine z_iconst 25 52 rfl rfl ci_0 ?_
    exact z_zret 26 rfl rfl
  · exact t_X8_isWhole_47 X d hd a0 h0  σ2
def f_X8_isWhole (a0 : Nat) (x1 : Int32) (x2 : Int32) (σ : zS) : Option (Int32 × zS) := zck (WC.2 a0 = (8, 0)) (zck (WC.2 (σ.2 a0 0) = (9, 0)) (zbr ((σ.1 (σ.2 a0 0) 5) = (2 : Int32)) (zbr ((σ.1 (σ.2 a0 0) 6) < x1) (f_X8_isWhole_39 a0 σ) (zbr ((σ.1 (σ.2 a0 0) 6) ≤ x2) (f_X8_isWhole_47 a0 σ) (f_X8_isWhole_39 a0 σ))) (zbd (f_X8_blame a0 (1 : Int32) σ) (fun r4 σ5 => zck (zb r4) (some (r4, σ5))))))
theorem c_X8_isWhole (X : zX) (d : Nat) (hd : 2 ≤ d) (a0 : Nat) (x1 : Int32) (x2 : Int32) (σ : zS) : ∀ (r : Int32) (σ' : zS), f_X8_isWhole a0 x1 x2 σ = some (r, σ') → zCN X WC d M_X8_isWhole [.ref a0, .int x1, .int x2] σ (zeI r, σ') := by
  obtain ⟨d, rfl⟩ : ∃ e, d = e + 1 := ⟨d - 1, by omega⟩
  refine z_entry [.ref a0, .int x1, .int x2] (by decide +kernel) T_X8_isWhole (Nat.le_of_ble_eq_true rfl) ?_
  show zK X WC (zrm (d + 1)) M_X8_isWhole (zZ X WC zeI) 0 [some (.ref a0), some (.int x1), some (.int x2)] [] σ (f_X8_isWhole a0 x1 x2 σ)
  unfold f_X8_isWhole
  refine z_ck (fun h0 => ?_)
  refine z_aload0 0 1 rfl rfl ?_
  refine z_getR 1 4 0 rfl rfl zf_X8_12 rfl h0 ?_
  refine z_ck (fun h3 => ?_)
  refine z_getI 2 7 5 rfl rfl zf_X8_53 rfl h3 ?_
  refine z_iconst 3 8 rfl rfl ci_2 ?_
  refine z_icmp_eq 4 11 17 rfl rfl (by decide) ?_ ?_
  · refine z_aload0 9 18 rfl rfl ?_
    refine z_getR 10 21 0 rfl rfl zf_X8_12 rfl h0 ?_
    refine z_getI 11 24 6 rfl rfl zf_X8_144 rfl h3 ?_
    refine z_iload1 12 25 rfl rfl ?_
    refine z_icmp_lt 13 28 39 rfl rfl (by decide) ?_ ?_
    · exact z_wk (zle_e (zle_n (zle_n zle_0))) (t_X8_isWhole_39 X d hd a0 h0  σ)
    · refine z_aload0 14 29 rfl rfl ?_
      refine z_getR 15 32 0 rfl rfl zf_X8_12 rfl h0 ?_
      refine z_getI 16 35 6 rfl rfl zf_X8_144 rfl h3 ?_
      refine z_iload2 17 36 rfl rfl ?_
      refine z_icmp_le 18 39 47 rfl rfl (by decide) ?_ ?_
      · exact z_wk (zle_e (zle_n (zle_n zle_0))) (t_X8_isWhole_47 X d hd a0 h0  σ)
      · exact z_wk (zle_e (zle_n (zle_n zle_0))) (t_X8_isWhole_39 X d hd a0 h0  σ)
  · refine z_aload0 5 12 rfl rfl ?_
    refine z_iconst 6 13 rfl rfl ci_1 ?_
    refine z_cV1I 7 16 rfl rfl zl_X8_62 F_X8_blame (zR_rm (by omega)) (c_X8_blame X d (by omega) a0 (1 : Int32) σ) ⟨by decide, rfl, rfl⟩ h0 rfl (Nat.le_of_ble_eq_true rfl) (fun r4 σ5 => ?_)
    exact z_zret 8 rfl rfl
def f_X8_passNumber (a0 : Nat) (σ : zS) : Option (Int32 × zS) := zck (WC.2 a0 = (8, 0)) (zck (WC.2 (σ.2 a0 0) = (9, 0)) (zlt (σ.1 (σ.2 a0 0) 6) (fun v2 => zbd (f_X9_next (σ.2 a0 0) σ) (fun r3 σ4 => some (v2, σ4)))))
theorem c_X8_passNumber (X : zX) (d : Nat) (hd : 3 ≤ d) (a0 : Nat) (σ : zS) : ∀ (r : Int32) (σ' : zS), f_X8_passNumber a0 σ = some (r, σ') → zCN X WC d M_X8_passNumber [.ref a0] σ (zeI r, σ') := by
  obtain ⟨d, rfl⟩ : ∃ e, d = e + 1 := ⟨d - 1, by omega⟩
  refine z_entry [.ref a0] (by decide +kernel) T_X8_passNumber (Nat.le_of_ble_eq_true rfl) ?_
  show zK X WC (zrm (d + 1)) M_X8_passNumber (zZ X WC zeI) 0 [some (.ref a0), none] [] σ (f_X8_passNumber a0 σ)
  unfold f_X8_passNumber
  refine z_ck (fun h0 => ?_)
  refine z_aload0 0 1 rfl rfl ?_
  refine z_getR 1 4 0 rfl rfl zf_X8_12 rfl h0 ?_
  refine z_ck (fun h1 => ?_)
  refine z_getI 2 7 6 rfl rfl zf_X8_144 rfl h1 ?_
  refine z_istore1 3 8 rfl rfl rfl (fun v2 => ?_)
  refine z_aload0 4 9 rfl rfl ?_
  refine z_getR 5 12 0 rfl rfl zf_X8_12 rfl h0 ?_
  refine z_cV0V 6 15 rfl rfl zl_X8_56 F_X9_next (zR_rm (by omega)) (c_X9_next X d (by omega) (σ.2 a0 0) σ) ⟨by decide, rfl, rfl⟩ h1 rfl (Nat.le_of_ble_eq_true rfl) (fun r3 σ4 => ?_)
  refine z_iload1 7 16 rfl rfl ?_
  exact z_iret 8 rfl rfl
def f_X8_readHead_21 (a0 : Nat) (s0 : Nat) (s1 : Int32) (σ : zS) : Option (Int32 × zS) := zck (WC.2 s0 = (8, 0)) (zbd (f_X8_blame s0 s1 σ) (fun r2 σ3 => zck (zb r2) (some (r2, σ3))))
theorem t_X8_readHead_21 (X : zX) (d : Nat) (hd : 10 ≤ d + 1) (a0 : Nat) (h0 : WC.2 a0 = (8, 0)) (s0 : Nat) (s1 : Int32) (σ : zS) : zK X WC (zrm (d + 1)) M_X8_readHead (zZ X WC zeI) 21 [some (.ref a0), none] [.int s1, .ref s0] σ (f_X8_readHead_21 a0 s0 s1 σ) := by
  unfold f_X8_readHead_21
  refine z_ck (fun h1 => ?_)
  refine z_cV1I 12 24 rfl rfl zl_X8_62 F_X8_blame (zR_rm (by omega)) (c_X8_blame X d (by omega) s0 s1 σ) ⟨by decide, rfl, rfl⟩ h1 rfl (Nat.le_of_ble_eq_true rfl) (fun r2 σ3 => ?_)
  exact z_zret 13 rfl rfl
def f_X8_readHead (a0 : Nat) (σ : zS) : Option (Int32 × zS) := zck (WC.2 a0 = (8, 0)) (zbd (f_X8_lineWord a0 σ) (fun r4 σ5 => zlt r4 (fun v6 => zbr (v6 = (1 : Int32)) (zck (WC.2 (σ5.2 a0 0) = (9, 0)) (zbd (f_X9_next (σ5.2 a0 0) σ5) (fun r8 σ9 => zbd (f_X8_passWord a0 (1000 + 9) σ9) (fun r10 σ11 => zbr (r10 = 0) (zck (zb (0 : Int32)) (some ((0 : Int32), σ11))) (zbd (f_X8_isWhole a0 (0 : Int32) (100 : Int32) σ11) (fun r12 σ13 => zbr (r12 = 0) (zck (zb (0 : Int32)) (some ((0 : Int32), σ13))) (zbd (f_X8_passNumber a0 σ13) (fun r14 σ15 => zck (WC.2 (σ13.2 a0 2) = (3, 0)) (zlt (zpi σ15 (σ13.2 a0 2) 9 r14) (fun σ17 => zck (zb (1 : Int32)) (some ((1 : Int32), σ17)))))))))))) (zbr (v6 = 0) (f_X8_readHead_21 a0 a0 (1 : Int32) σ5) (f_X8_readHead_21 a0 a0 (6 : Int32) σ5)))))
theorem c_X8_readHead (X : zX) (d : Nat) (hd : 10 ≤ d) (a0 : Nat) (σ : zS) : ∀ (r : Int32) (σ' : zS), f_X8_readHead a0 σ = some (r, σ') → zCN X WC d M_X8_readHead [.ref a0] σ (zeI r, σ') := by
  obtain ⟨d, rfl⟩ : ∃ e, d = e + 1 := ⟨d - 1, by omega⟩
  refine z_entry [.ref a0] (by decide +kernel) T_X8_readHead (Nat.le_of_ble_eq_true rfl) ?_
  show zK X WC (zrm (d + 1)) M_X8_readHead (zZ X WC zeI) 0 [some (.ref a0), none] [] σ (f_X8_readHead a0 σ)
  unfold f_X8_readHead
  refine z_ck (fun h0 => ?_)
  refine z_aload0 0 1 rfl rfl ?_
  refine z_cV0I 1 4 rfl rfl zl_X8_98 F_X8_lineWord (zR_rm (by omega)) (c_X8_lineWord X d (by omega) a0 σ) ⟨by decide, rfl, rfl⟩ h0 rfl (Nat.le_of_ble_eq_true rfl) (fun r4 σ5 => ?_)
  refine z_istore1 2 5 rfl rfl rfl (fun v6 => ?_)
  refine z_iload1 3 6 rfl rfl ?_
  refine z_iconst 4 7 rfl rfl ci_1 ?_
  refine z_icmp_eq 5 10 25 rfl rfl (by decide) ?_ ?_
  · refine z_aload0 14 26 rfl rfl ?_
    refine z_getR 15 29 0 rfl rfl zf_X8_12 rfl h0 ?_
    refine z_ck (fun h7 => ?_)
    refine z_cV0V 16 32 rfl rfl zl_X8_56 F_X9_next (zR_rm (by omega)) (c_X9_next X d (by omega) (σ5.2 a0 0) σ5) ⟨by decide, rfl, rfl⟩ h7 rfl (Nat.le_of_ble_eq_true rfl) (fun r8 σ9 => ?_)
    refine z_aload0 17 33 rfl rfl ?_
    refine z_ldcS 18 35 9 rfl rfl (tx := "wet") (List.mem_of_getElem? (i := 9) rfl) ?_
    refine z_cV1I 19 38 rfl rfl zl_X8_104 F_X8_passWord (zR_rm (by omega)) (c_X8_passWord X d (by omega) a0 (1000 + 9) σ9) ⟨by decide, rfl, rfl⟩ h0 rfl (Nat.le_of_ble_eq_true rfl) (fun r10 σ11 => ?_)
    refine z_if_eq 20 41 51 rfl rfl (by decide) ?_ ?_
    · refine z_iconst 26 52 rfl rfl ci_0 ?_
      exact z_zret 27 rfl rfl
    · refine z_aload0 21 42 rfl rfl ?_
      refine z_iconst 22 43 rfl rfl ci_0 ?_
      refine z_bipush 23 45 rfl rfl cb_100 ?_
      refine z_cV2I 24 48 rfl rfl zl_X8_107 F_X8_isWhole (zR_rm (by omega)) (c_X8_isWhole X d (by omega) a0 (0 : Int32) (100 : Int32) σ11) ⟨by decide, rfl, rfl⟩ h0 rfl (Nat.le_of_ble_eq_true rfl) (fun r12 σ13 => ?_)
      refine z_if_ne 25 51 53 rfl rfl (by decide) ?_ ?_
      · refine z_iconst 26 52 rfl rfl ci_0 ?_
        exact z_zret 27 rfl rfl
      · refine z_aload0 28 54 rfl rfl ?_
        refine z_getR 29 57 2 rfl rfl zf_X8_28 rfl h0 ?_
        refine z_aload0 30 58 rfl rfl ?_
        refine z_cV0I 31 61 rfl rfl zl_X8_110 F_X8_passNumber (zR_rm (by omega)) (c_X8_passNumber X d (by omega) a0 σ13) ⟨by decide, rfl, rfl⟩ h0 rfl (Nat.le_of_ble_eq_true rfl) (fun r14 σ15 => ?_)
        refine z_ck (fun h16 => ?_)
        refine z_putI 32 64 9 rfl rfl zf_X8_113 rfl rfl rfl h16 (fun σ17 => ?_)
        refine z_iconst 33 65 rfl rfl ci_1 ?_
        exact z_zret 34 rfl rfl
  · refine z_aload0 6 11 rfl rfl ?_
    refine z_iload1 7 12 rfl rfl ?_
    refine z_if_ne 8 15 19 rfl rfl (by decide) ?_ ?_
    · refine z_iconst 9 16 rfl rfl ci_1 ?_
      refine z_goto 10 21 rfl (by decide) ?_
      exact z_wk (zle_e (zle_n zle_0)) (t_X8_readHead_21 X d hd a0 h0  a0 (1 : Int32) σ5)
    · refine z_bipush 11 21 rfl rfl cb_6 ?_
      exact z_wk (zle_e (zle_n zle_0)) (t_X8_readHead_21 X d hd a0 h0  a0 (6 : Int32) σ5)
def f_X8_passNewName_18 (a0 : Nat)  (σ : zS) : Option (Int32 × zS) := zbd (f_X8_blame a0 (1 : Int32) σ) (fun r1 σ2 => zck (zb r1) (some (r1, σ2)))
theorem t_X8_passNewName_18 (X : zX) (d : Nat) (hd : 10 ≤ d + 1) (a0 : Nat) (h0 : WC.2 a0 = (8, 0))  (σ : zS) : zK X WC (zrm (d + 1)) M_X8_passNewName (zZ X WC zeI) 18 [some (.ref a0), none, none] [] σ (f_X8_passNewName_18 a0 σ) := by
  unfold f_X8_passNewName_18
  refine z_aload0 8 19 rfl rfl ?_
  refine z_iconst 9 20 rfl rfl ci_1 ?_
  refine z_cV1I 10 23 rfl rfl zl_X8_62 F_X8_blame (zR_rm (by omega)) (c_X8_blame X d (by omega) a0 (1 : Int32) σ) ⟨by decide, rfl, rfl⟩ h0 rfl (Nat.le_of_ble_eq_true rfl) (fun r1 σ2 => ?_)
  exact z_zret 11 rfl rfl
def f_X8_passNewName (a0 : Nat) (x1 : Int32) (x2 : Int32) (σ : zS) : Option (Int32 × zS) := zck (WC.2 a0 = (8, 0)) (zck (WC.2 (σ.2 a0 0) = (9, 0)) (zbr ((σ.1 (σ.2 a0 0) 5) = (1 : Int32)) (zbd (f_X8_lineWord a0 σ) (fun r4 σ5 => zbr (r4 = 0) (zck (WC.2 (σ5.2 a0 1) = (4, 0)) (zbd (f_X4_indexOf (σ5.2 a0 1) (σ5.2 a0 0) σ5) (fun r7 σ8 => zbr (r7 = (-1 : Int32)) (zck (WC.2 (σ8.2 a0 1) = (4, 0)) (zbd (f_X4_add (σ8.2 a0 1) (σ8.2 a0 0) x1 x2 σ8) (fun r10 σ11 => zck (WC.2 (σ11.2 a0 0) = (9, 0)) (zbd (f_X9_next (σ11.2 a0 0) σ11) (fun r13 σ14 => zck (zb (1 : Int32)) (some ((1 : Int32), σ14))))))) (zbd (f_X8_blame a0 (3 : Int32) σ8) (fun r15 σ16 => zck (zb r15) (some (r15, σ16))))))) (f_X8_passNewName_18 a0 σ5))) (f_X8_passNewName_18 a0 σ)))
theorem c_X8_passNewName (X : zX) (d : Nat) (hd : 10 ≤ d) (a0 : Nat) (x1 : Int32) (x2 : Int32) (σ : zS) : ∀ (r : Int32) (σ' : zS), f_X8_passNewName a0 x1 x2 σ = some (r, σ') → zCN X WC d M_X8_passNewName [.ref a0, .int x1, .int x2] σ (zeI r, σ') := by
  obtain ⟨d, rfl⟩ : ∃ e, d = e + 1 := ⟨d - 1, by omega⟩
  refine z_entry [.ref a0, .int x1, .int x2] (by decide +kernel) T_X8_passNewName (Nat.le_of_ble_eq_true rfl) ?_
  show zK X WC (zrm (d + 1)) M_X8_passNewName (zZ X WC zeI) 0 [some (.ref a0), some (.int x1), some (.int x2)] [] σ (f_X8_passNewName a0 x1 x2 σ)
  unfold f_X8_passNewName
  refine z_ck (fun h0 => ?_)
  refine z_aload0 0 1 rfl rfl ?_
  refine z_getR 1 4 0 rfl rfl zf_X8_12 rfl h0 ?_
  refine z_ck (fun h3 => ?_)
  refine z_getI 2 7 5 rfl rfl zf_X8_53 rfl h3 ?_
  refine z_iconst 3 8 rfl rfl ci_1 ?_
  refine z_icmp_ne 4 11 18 rfl rfl (by decide) ?_ ?_
  · refine z_aload0 5 12 rfl rfl ?_
    refine z_cV0I 6 15 rfl rfl zl_X8_98 F_X8_lineWord (zR_rm (by omega)) (c_X8_lineWord X d (by omega) a0 σ) ⟨by decide, rfl, rfl⟩ h0 rfl (Nat.le_of_ble_eq_true rfl) (fun r4 σ5 => ?_)
    refine z_if_eq 7 18 24 rfl rfl (by decide) ?_ ?_
    · refine z_aload0 12 25 rfl rfl ?_
      refine z_getR 13 28 1 rfl rfl zf_X8_21 rfl h0 ?_
      refine z_aload0 14 29 rfl rfl ?_
      refine z_getR 15 32 0 rfl rfl zf_X8_12 rfl h0 ?_
      refine z_ck (fun h6 => ?_)
      refine z_cV1I 16 35 rfl rfl zl_X8_231 F_X4_indexOf (zR_rm (by omega)) (c_X4_indexOf X d (by omega) (σ5.2 a0 1) (σ5.2 a0 0) σ5) ⟨by decide, rfl, rfl⟩ h6 rfl (Nat.le_of_ble_eq_true rfl) (fun r7 σ8 => ?_)
      refine z_iconst 17 36 rfl rfl ci_m1 ?_
      refine z_icmp_eq 18 39 45 rfl rfl (by decide) ?_ ?_
      · refine z_aload0 23 46 rfl rfl ?_
        refine z_getR 24 49 1 rfl rfl zf_X8_21 rfl h0 ?_
        refine z_aload0 25 50 rfl rfl ?_
        refine z_getR 26 53 0 rfl rfl zf_X8_12 rfl h0 ?_
        refine z_iload1 27 54 rfl rfl ?_
        refine z_iload2 28 55 rfl rfl ?_
        refine z_ck (fun h9 => ?_)
        refine z_cV3V 29 58 rfl rfl zl_X8_235 F_X4_add (zR_rm (by omega)) (c_X4_add X d (σ8.2 a0 1) (σ8.2 a0 0) x1 x2 σ8) ⟨by decide, rfl, rfl⟩ h9 rfl (Nat.le_of_ble_eq_true rfl) (fun r10 σ11 => ?_)
        refine z_aload0 30 59 rfl rfl ?_
        refine z_getR 31 62 0 rfl rfl zf_X8_12 rfl h0 ?_
        refine z_ck (fun h12 => ?_)
        refine z_cV0V 32 65 rfl rfl zl_X8_56 F_X9_next (zR_rm (by omega)) (c_X9_next X d (by omega) (σ11.2 a0 0) σ11) ⟨by decide, rfl, rfl⟩ h12 rfl (Nat.le_of_ble_eq_true rfl) (fun r13 σ14 => ?_)
        refine z_iconst 33 66 rfl rfl ci_1 ?_
        exact z_zret 34 rfl rfl
      · refine z_aload0 19 40 rfl rfl ?_
        refine z_iconst 20 41 rfl rfl ci_3 ?_
        refine z_cV1I 21 44 rfl rfl zl_X8_62 F_X8_blame (zR_rm (by omega)) (c_X8_blame X d (by omega) a0 (3 : Int32) σ8) ⟨by decide, rfl, rfl⟩ h0 rfl (Nat.le_of_ble_eq_true rfl) (fun r15 σ16 => ?_)
        exact z_zret 22 rfl rfl
    · exact z_wk (zle_e (zle_n (zle_n zle_0))) (t_X8_passNewName_18 X d hd a0 h0  σ5)
  · exact z_wk (zle_e (zle_n (zle_n zle_0))) (t_X8_passNewName_18 X d hd a0 h0  σ)
def f_X8_readPlace (a0 : Nat) (σ : zS) : Option (Int32 × zS) := zck (WC.2 a0 = (8, 0)) (zck (WC.2 (σ.2 a0 2) = (3, 0)) (zlt (σ.1 (σ.2 a0 2) 10) (fun v2 => zbr (v2 < (6 : Int32)) (zck (WC.2 (σ.2 a0 0) = (9, 0)) (zbd (f_X9_next (σ.2 a0 0) σ) (fun r4 σ5 => zbd (f_X8_passNewName a0 (2 : Int32) v2 σ5) (fun r6 σ7 => zbr (r6 = 0) (zck (zb (0 : Int32)) (some ((0 : Int32), σ7))) (zbd (f_X8_passWord a0 (1000 + 10) σ7) (fun r8 σ9 => zbr (r8 = 0) (zck (zb (0 : Int32)) (some ((0 : Int32), σ9))) (zbd (f_X8_isWhole a0 (0 : Int32) (99 : Int32) σ9) (fun r10 σ11 => zbr (r10 = 0) (zck (zb (0 : Int32)) (some ((0 : Int32), σ11))) (zck (WC.2 (σ11.2 a0 0) = (9, 0)) (zck (WC.2 (σ11.2 a0 2) = (3, 0)) (zbd (f_X3_hasRank (σ11.2 a0 2) (σ11.1 (σ11.2 a0 0) 6) σ11) (fun r14 σ15 => zbr (r14 = 0) (zck (WC.2 (σ15.2 a0 2) = (3, 0)) (zbd (f_X8_passNumber a0 σ15) (fun r17 σ18 => zck (zok 100 (WC.2 (σ15.2 (σ15.2 a0 2) 0)) v2) (zlt (zpi σ18 (σ15.2 (σ15.2 a0 2) 0) v2.toNatClampNeg r17) (fun σ19 => zbd (f_X8_passWord a0 (1000 + 11) σ19) (fun r20 σ21 => zbr (r20 = 0) (zck (zb (0 : Int32)) (some ((0 : Int32), σ21))) (zbd (f_X8_isWhole a0 (1 : Int32) (9 : Int32) σ21) (fun r22 σ23 => zbr (r22 = 0) (zck (zb (0 : Int32)) (some ((0 : Int32), σ23))) (zck (WC.2 (σ23.2 a0 2) = (3, 0)) (zbd (f_X8_passNumber a0 σ23) (fun r25 σ26 => zck (zok 100 (WC.2 (σ23.2 (σ23.2 a0 2) 1)) v2) (zlt (zpi σ26 (σ23.2 (σ23.2 a0 2) 1) v2.toNatClampNeg r25) (fun σ27 => zck (WC.2 (σ27.2 a0 2) = (3, 0)) (zlt (zpi σ27 (σ27.2 a0 2) 10 ((σ27.1 (σ27.2 a0 2) 10) + (1 : Int32))) (fun σ29 => zck (zb (1 : Int32)) (some ((1 : Int32), σ29))))))))))))))))) (zbd (f_X8_blame a0 (3 : Int32) σ15) (fun r30 σ31 => zck (zb r30) (some (r30, σ31)))))))))))))))) (zbd (f_X8_blame a0 (5 : Int32) σ) (fun r32 σ33 => zck (zb r32) (some (r32, σ33)))))))
theorem c_X8_readPlace (X : zX) (d : Nat) (hd : 11 ≤ d) (a0 : Nat) (σ : zS) : ∀ (r : Int32) (σ' : zS), f_X8_readPlace a0 σ = some (r, σ') → zCN X WC d M_X8_readPlace [.ref a0] σ (zeI r, σ') := by
  obtain ⟨d, rfl⟩ : ∃ e, d = e + 1 := ⟨d - 1, by omega⟩
  refine z_entry [.ref a0] (by decide +kernel) T_X8_readPlace (Nat.le_of_ble_eq_true rfl) ?_
  show zK X WC (zrm (d + 1)) M_X8_readPlace (zZ X WC zeI) 0 [some (.ref a0), none] [] σ (f_X8_readPlace a0 σ)
  unfold f_X8_readPlace
  refine z_ck (fun h0 => ?_)
  refine z_aload0 0 1 rfl rfl ?_
  refine z_getR 1 4 2 rfl rfl zf_X8_28 rfl h0 ?_
  refine z_ck (fun h1 => ?_)
  refine z_getI 2 7 10 rfl rfl zf_X8_66 rfl h1 ?_
  refine z_istore1 3 8 rfl rfl rfl (fun v2 => ?_)
  refine z_iload1 4 9 rfl rfl ?_
  refine z_bipush 5 11 rfl rfl cb_6 ?_
  refine z_icmp_lt 6 14 20 rfl rfl (by decide) ?_ ?_
  · refine z_aload0 11 21 rfl rfl ?_
    refine z_getR 12 24 0 rfl rfl zf_X8_12 rfl h0 ?_
    refine z_ck (fun h3 => ?_)
    refine z_cV0V 13 27 rfl rfl zl_X8_56 F_X9_next (zR_rm (by omega)) (c_X9_next X d (by omega) (σ.2 a0 0) σ) ⟨by decide, rfl, rfl⟩ h3 rfl (Nat.le_of_ble_eq_true rfl) (fun r4 σ5 => ?_)
    refine z_aload0 14 28 rfl rfl ?_
    refine z_iconst 15 29 rfl rfl ci_2 ?_
    refine z_iload1 16 30 rfl rfl ?_
    refine z_cV2I 17 33 rfl rfl zl_X8_139 F_X8_passNewName (zR_rm (by omega)) (c_X8_passNewName X d (by omega) a0 (2 : Int32) v2 σ5) ⟨by decide, rfl, rfl⟩ h0 rfl (Nat.le_of_ble_eq_true rfl) (fun r6 σ7 => ?_)
    refine z_if_eq 18 36 55 rfl rfl (by decide) ?_ ?_
    · refine z_iconst 28 56 rfl rfl ci_0 ?_
      exact z_zret 29 rfl rfl
    · refine z_aload0 19 37 rfl rfl ?_
      refine z_ldcS 20 39 10 rfl rfl (tx := "rank") (List.mem_of_getElem? (i := 10) rfl) ?_
      refine z_cV1I 21 42 rfl rfl zl_X8_104 F_X8_passWord (zR_rm (by omega)) (c_X8_passWord X d (by omega) a0 (1000 + 10) σ7) ⟨by decide, rfl, rfl⟩ h0 rfl (Nat.le_of_ble_eq_true rfl) (fun r8 σ9 => ?_)
      refine z_if_eq 22 45 55 rfl rfl (by decide) ?_ ?_
      · refine z_iconst 28 56 rfl rfl ci_0 ?_
        exact z_zret 29 rfl rfl
      · refine z_aload0 23 46 rfl rfl ?_
        refine z_iconst 24 47 rfl rfl ci_0 ?_
        refine z_bipush 25 49 rfl rfl cb_99 ?_
        refine z_cV2I 26 52 rfl rfl zl_X8_107 F_X8_isWhole (zR_rm (by omega)) (c_X8_isWhole X d (by omega) a0 (0 : Int32) (99 : Int32) σ9) ⟨by decide, rfl, rfl⟩ h0 rfl (Nat.le_of_ble_eq_true rfl) (fun r10 σ11 => ?_)
        refine z_if_ne 27 55 57 rfl rfl (by decide) ?_ ?_
        · refine z_iconst 28 56 rfl rfl ci_0 ?_
          exact z_zret 29 rfl rfl
        · refine z_aload0 30 58 rfl rfl ?_
          refine z_getR 31 61 2 rfl rfl zf_X8_28 rfl h0 ?_
          refine z_aload0 32 62 rfl rfl ?_
          refine z_getR 33 65 0 rfl rfl zf_X8_12 rfl h0 ?_
          refine z_ck (fun h12 => ?_)
          refine z_getI 34 68 6 rfl rfl zf_X8_144 rfl h12 ?_
          refine z_ck (fun h13 => ?_)
          refine z_cV1I 35 71 rfl rfl zl_X8_147 F_X3_hasRank (zR_rm (by omega)) (c_X3_hasRank X d (σ11.2 a0 2) (σ11.1 (σ11.2 a0 0) 6) σ11) ⟨by decide, rfl, rfl⟩ h13 rfl (Nat.le_of_ble_eq_true rfl) (fun r14 σ15 => ?_)
          refine z_if_eq 36 74 80 rfl rfl (by decide) ?_ ?_
          · refine z_aload0 41 81 rfl rfl ?_
            refine z_getR 42 84 2 rfl rfl zf_X8_28 rfl h0 ?_
            refine z_ck (fun h16 => ?_)
            refine z_getR 43 87 0 rfl rfl zf_X8_150 rfl h16 ?_
            refine z_iload1 44 88 rfl rfl ?_
            refine z_aload0 45 89 rfl rfl ?_
            refine z_cV0I 46 92 rfl rfl zl_X8_110 F_X8_passNumber (zR_rm (by omega)) (c_X8_passNumber X d (by omega) a0 σ15) ⟨by decide, rfl, rfl⟩ h0 rfl (Nat.le_of_ble_eq_true rfl) (fun r17 σ18 => ?_)
            refine z_iast 47 93 rfl rfl (fun σ19 => ?_)
            refine z_aload0 48 94 rfl rfl ?_
            refine z_ldcS 49 96 11 rfl rfl (tx := "room") (List.mem_of_getElem? (i := 11) rfl) ?_
            refine z_cV1I 50 99 rfl rfl zl_X8_104 F_X8_passWord (zR_rm (by omega)) (c_X8_passWord X d (by omega) a0 (1000 + 11) σ19) ⟨by decide, rfl, rfl⟩ h0 rfl (Nat.le_of_ble_eq_true rfl) (fun r20 σ21 => ?_)
            refine z_if_eq 51 102 112 rfl rfl (by decide) ?_ ?_
            · refine z_iconst 57 113 rfl rfl ci_0 ?_
              exact z_zret 58 rfl rfl
            · refine z_aload0 52 103 rfl rfl ?_
              refine z_iconst 53 104 rfl rfl ci_1 ?_
              refine z_bipush 54 106 rfl rfl cb_9 ?_
              refine z_cV2I 55 109 rfl rfl zl_X8_107 F_X8_isWhole (zR_rm (by omega)) (c_X8_isWhole X d (by omega) a0 (1 : Int32) (9 : Int32) σ21) ⟨by decide, rfl, rfl⟩ h0 rfl (Nat.le_of_ble_eq_true rfl) (fun r22 σ23 => ?_)
              refine z_if_ne 56 112 114 rfl rfl (by decide) ?_ ?_
              · refine z_iconst 57 113 rfl rfl ci_0 ?_
                exact z_zret 58 rfl rfl
              · refine z_aload0 59 115 rfl rfl ?_
                refine z_getR 60 118 2 rfl rfl zf_X8_28 rfl h0 ?_
                refine z_ck (fun h24 => ?_)
                refine z_getR 61 121 1 rfl rfl zf_X8_155 rfl h24 ?_
                refine z_iload1 62 122 rfl rfl ?_
                refine z_aload0 63 123 rfl rfl ?_
                refine z_cV0I 64 126 rfl rfl zl_X8_110 F_X8_passNumber (zR_rm (by omega)) (c_X8_passNumber X d (by omega) a0 σ23) ⟨by decide, rfl, rfl⟩ h0 rfl (Nat.le_of_ble_eq_true rfl) (fun r25 σ26 => ?_)
                refine z_iast 65 127 rfl rfl (fun σ27 => ?_)
                refine z_aload0 66 128 rfl rfl ?_
                refine z_getR 67 131 2 rfl rfl zf_X8_28 rfl h0 ?_
                refine z_dup 68 132 rfl rfl rfl ?_
                refine z_ck (fun h28 => ?_)
                refine z_getI 69 135 10 rfl rfl zf_X8_66 rfl h28 ?_
                refine z_iconst 70 136 rfl rfl ci_1 ?_
                refine z_iadd 71 137 rfl rfl ?_
                refine z_putI 72 140 10 rfl rfl zf_X8_66 rfl rfl rfl h28 (fun σ29 => ?_)
                refine z_iconst 73 141 rfl rfl ci_1 ?_
                exact z_zret 74 rfl rfl
          · refine z_aload0 37 75 rfl rfl ?_
            refine z_iconst 38 76 rfl rfl ci_3 ?_
            refine z_cV1I 39 79 rfl rfl zl_X8_62 F_X8_blame (zR_rm (by omega)) (c_X8_blame X d (by omega) a0 (3 : Int32) σ15) ⟨by decide, rfl, rfl⟩ h0 rfl (Nat.le_of_ble_eq_true rfl) (fun r30 σ31 => ?_)
            exact z_zret 40 rfl rfl
  · refine z_aload0 7 15 rfl rfl ?_
    refine z_iconst 8 16 rfl rfl ci_5 ?_
    refine z_cV1I 9 19 rfl rfl zl_X8_62 F_X8_blame (zR_rm (by omega)) (c_X8_blame X d (by omega) a0 (5 : Int32) σ) ⟨by decide, rfl, rfl⟩ h0 rfl (Nat.le_of_ble_eq_true rfl) (fun r32 σ33 => ?_)
    exact z_zret 10 rfl rfl
def f_X8_passName_56 (a0 : Nat)  (σ : zS) : Option (Int32 × zS) := zbd (f_X8_blame a0 (2 : Int32) σ) (fun r1 σ2 => some ((-1 : Int32), σ2))
theorem t_X8_passName_56 (X : zX) (d : Nat) (hd : 10 ≤ d + 1) (a0 : Nat) (h0 : WC.2 a0 = (8, 0))  (σ : zS) : zK X WC (zrm (d + 1)) M_X8_passName (zZ X WC zeI) 56 [some (.ref a0), none, none] [] σ (f_X8_passName_56 a0 σ) := by
  unfold f_X8_passName_56
  refine z_aload0 30 57 rfl rfl ?_
  refine z_iconst 31 58 rfl rfl ci_2 ?_
  refine z_cV1I 32 61 rfl rfl zl_X8_62 F_X8_blame (zR_rm (by omega)) (c_X8_blame X d (by omega) a0 (2 : Int32) σ) ⟨by decide, rfl, rfl⟩ h0 rfl (Nat.le_of_ble_eq_true rfl) (fun r1 σ2 => ?_)
  refine z_pop 33 62 rfl rfl rfl ?_
  refine z_iconst 34 63 rfl rfl ci_m1 ?_
  exact z_iret 35 rfl rfl
def f_X8_passName_18 (a0 : Nat)  (σ : zS) : Option (Int32 × zS) := zbd (f_X8_blame a0 (1 : Int32) σ) (fun r3 σ4 => some ((-1 : Int32), σ4))
theorem t_X8_passName_18 (X : zX) (d : Nat) (hd : 10 ≤ d + 1) (a0 : Nat) (h0 : WC.2 a0 = (8, 0))  (σ : zS) : zK X WC (zrm (d + 1)) M_X8_passName (zZ X WC zeI) 18 [some (.ref a0), none, none] [] σ (f_X8_passName_18 a0 σ) := by
  unfold f_X8_passName_18
  refine z_aload0 8 19 rfl rfl ?_
  refine z_iconst 9 20 rfl rfl ci_1 ?_
  refine z_cV1I 10 23 rfl rfl zl_X8_62 F_X8_blame (zR_rm (by omega)) (c_X8_blame X d (by omega) a0 (1 : Int32) σ) ⟨by decide, rfl, rfl⟩ h0 rfl (Nat.le_of_ble_eq_true rfl) (fun r3 σ4 => ?_)
  refine z_pop 11 24 rfl rfl rfl ?_
  refine z_iconst 12 25 rfl rfl ci_m1 ?_
  exact z_iret 13 rfl rfl
def f_X8_passName (a0 : Nat) (x1 : Int32) (σ : zS) : Option (Int32 × zS) := zck (WC.2 a0 = (8, 0)) (zck (WC.2 (σ.2 a0 0) = (9, 0)) (zbr ((σ.1 (σ.2 a0 0) 5) = (1 : Int32)) (zbd (f_X8_lineWord a0 σ) (fun r6 σ7 => zbr (r6 = 0) (zck (WC.2 (σ7.2 a0 1) = (4, 0)) (zbd (f_X4_indexOf (σ7.2 a0 1) (σ7.2 a0 0) σ7) (fun r9 σ10 => zlt r9 (fun v11 => zbr (v11 = (-1 : Int32)) (f_X8_passName_56 a0 σ10) (zck (WC.2 (σ10.2 a0 1) = (4, 0)) (zck (zok 100 (WC.2 (σ10.2 (σ10.2 a0 1) 2)) v11) (zbr ((σ10.1 (σ10.2 (σ10.2 a0 1) 2) v11.toNatClampNeg) = x1) (zck (WC.2 (σ10.2 a0 0) = (9, 0)) (zbd (f_X9_next (σ10.2 a0 0) σ10) (fun r14 σ15 => zck (WC.2 (σ15.2 a0 1) = (4, 0)) (zck (zok 100 (WC.2 (σ15.2 (σ15.2 a0 1) 3)) v11) (some ((σ15.1 (σ15.2 (σ15.2 a0 1) 3) v11.toNatClampNeg), σ15)))))) (f_X8_passName_56 a0 σ10)))))))) (f_X8_passName_18 a0 σ7))) (f_X8_passName_18 a0 σ)))
theorem c_X8_passName (X : zX) (d : Nat) (hd : 10 ≤ d) (a0 : Nat) (x1 : Int32) (σ : zS) : ∀ (r : Int32) (σ' : zS), f_X8_passName a0 x1 σ = some (r, σ') → zCN X WC d M_X8_passName [.ref a0, .int x1] σ (zeI r, σ') := by
  obtain ⟨d, rfl⟩ : ∃ e, d = e + 1 := ⟨d - 1, by omega⟩
  refine z_entry [.ref a0, .int x1] (by decide +kernel) T_X8_passName (Nat.le_of_ble_eq_true rfl) ?_
  show zK X WC (zrm (d + 1)) M_X8_passName (zZ X WC zeI) 0 [some (.ref a0), some (.int x1), none] [] σ (f_X8_passName a0 x1 σ)
  unfold f_X8_passName
  refine z_ck (fun h0 => ?_)
  refine z_aload0 0 1 rfl rfl ?_
  refine z_getR 1 4 0 rfl rfl zf_X8_12 rfl h0 ?_
  refine z_ck (fun h5 => ?_)
  refine z_getI 2 7 5 rfl rfl zf_X8_53 rfl h5 ?_
  refine z_iconst 3 8 rfl rfl ci_1 ?_
  refine z_icmp_ne 4 11 18 rfl rfl (by decide) ?_ ?_
  · refine z_aload0 5 12 rfl rfl ?_
    refine z_cV0I 6 15 rfl rfl zl_X8_98 F_X8_lineWord (zR_rm (by omega)) (c_X8_lineWord X d (by omega) a0 σ) ⟨by decide, rfl, rfl⟩ h0 rfl (Nat.le_of_ble_eq_true rfl) (fun r6 σ7 => ?_)
    refine z_if_eq 7 18 26 rfl rfl (by decide) ?_ ?_
    · refine z_aload0 14 27 rfl rfl ?_
      refine z_getR 15 30 1 rfl rfl zf_X8_21 rfl h0 ?_
      refine z_aload0 16 31 rfl rfl ?_
      refine z_getR 17 34 0 rfl rfl zf_X8_12 rfl h0 ?_
      refine z_ck (fun h8 => ?_)
      refine z_cV1I 18 37 rfl rfl zl_X8_231 F_X4_indexOf (zR_rm (by omega)) (c_X4_indexOf X d (by omega) (σ7.2 a0 1) (σ7.2 a0 0) σ7) ⟨by decide, rfl, rfl⟩ h8 rfl (Nat.le_of_ble_eq_true rfl) (fun r9 σ10 => ?_)
      refine z_istore2 19 38 rfl rfl rfl (fun v11 => ?_)
      refine z_iload2 20 39 rfl rfl ?_
      refine z_iconst 21 40 rfl rfl ci_m1 ?_
      refine z_icmp_eq 22 43 56 rfl rfl (by decide) ?_ ?_
      · exact z_wk (zle_e (zle_n (zle_n zle_0))) (t_X8_passName_56 X d hd a0 h0  σ10)
      · refine z_aload0 23 44 rfl rfl ?_
        refine z_getR 24 47 1 rfl rfl zf_X8_21 rfl h0 ?_
        refine z_ck (fun h12 => ?_)
        refine z_getR 25 50 2 rfl rfl zf_X8_238 rfl h12 ?_
        refine z_iload2 26 51 rfl rfl ?_
        refine z_iald 27 52 rfl rfl ?_
        refine z_iload1 28 53 rfl rfl ?_
        refine z_icmp_eq 29 56 64 rfl rfl (by decide) ?_ ?_
        · refine z_aload0 36 65 rfl rfl ?_
          refine z_getR 37 68 0 rfl rfl zf_X8_12 rfl h0 ?_
          refine z_ck (fun h13 => ?_)
          refine z_cV0V 38 71 rfl rfl zl_X8_56 F_X9_next (zR_rm (by omega)) (c_X9_next X d (by omega) (σ10.2 a0 0) σ10) ⟨by decide, rfl, rfl⟩ h13 rfl (Nat.le_of_ble_eq_true rfl) (fun r14 σ15 => ?_)
          refine z_aload0 39 72 rfl rfl ?_
          refine z_getR 40 75 1 rfl rfl zf_X8_21 rfl h0 ?_
          refine z_ck (fun h16 => ?_)
          refine z_getR 41 78 3 rfl rfl zf_X8_241 rfl h16 ?_
          refine z_iload2 42 79 rfl rfl ?_
          refine z_iald 43 80 rfl rfl ?_
          exact z_iret 44 rfl rfl
        · exact z_wk (zle_e (zle_n (zle_n zle_0))) (t_X8_passName_56 X d hd a0 h0  σ10)
    · exact z_wk (zle_e (zle_n (zle_e zle_0))) (t_X8_passName_18 X d hd a0 h0  σ7)
  · exact z_wk (zle_e (zle_n (zle_e zle_0))) (t_X8_passName_18 X d hd a0 h0  σ)
def f_X8_readOver_82 (a0 : Nat) (x3 : Int32) (σ : zS) : Option (Int32 × zS) := zbd (f_X8_blameAt a0 (3 : Int32) x3 σ) (fun r1 σ2 => zck (zb r1) (some (r1, σ2)))
theorem t_X8_readOver_82 (X : zX) (d : Nat) (hd : 11 ≤ d + 1) (a0 : Nat) (h0 : WC.2 a0 = (8, 0)) (x3 : Int32) (σ : zS) : zK X WC (zrm (d + 1)) M_X8_readOver (zZ X WC zeI) 82 [some (.ref a0), none, none, some (.int x3), none] [] σ (f_X8_readOver_82 a0 x3 σ) := by
  unfold f_X8_readOver_82
  refine z_aload0 45 83 rfl rfl ?_
  refine z_iconst 46 84 rfl rfl ci_3 ?_
  refine z_iload3 47 85 rfl rfl ?_
  refine z_cV2I 48 88 rfl rfl zl_X8_72 F_X8_blameAt (zR_rm (by omega)) (c_X8_blameAt X d a0 (3 : Int32) x3 σ) ⟨by decide, rfl, rfl⟩ h0 rfl (Nat.le_of_ble_eq_true rfl) (fun r1 σ2 => ?_)
  exact z_zret 49 rfl rfl
def f_X8_readOver (a0 : Nat) (σ : zS) : Option (Int32 × zS) := zck (WC.2 a0 = (8, 0)) (zck (WC.2 (σ.2 a0 2) = (3, 0)) (zlt (σ.1 (σ.2 a0 2) 11) (fun v4 => zbr (v4 < (6 : Int32)) (zck (WC.2 (σ.2 a0 0) = (9, 0)) (zbd (f_X9_next (σ.2 a0 0) σ) (fun r6 σ7 => zbd (f_X8_passName a0 (2 : Int32) σ7) (fun r8 σ9 => zlt r8 (fun v10 => zbr (v10 = (-1 : Int32)) (zck (zb (0 : Int32)) (some ((0 : Int32), σ9))) (zck (WC.2 (σ9.2 a0 0) = (9, 0)) (zlt (σ9.1 (σ9.2 a0 0) 3) (fun v12 => zbd (f_X8_passName a0 (2 : Int32) σ9) (fun r13 σ14 => zlt r13 (fun v15 => zbr (v15 = (-1 : Int32)) (zck (zb (0 : Int32)) (some ((0 : Int32), σ14))) (zbr (v10 = v15) (f_X8_readOver_82 a0 v12 σ14) (zck (WC.2 (σ14.2 a0 2) = (3, 0)) (zbd (f_X3_hasOver (σ14.2 a0 2) v10 v15 σ14) (fun r17 σ18 => zbr (r17 = 0) (zck (WC.2 (σ18.2 a0 2) = (3, 0)) (zck (zok 100 (WC.2 (σ18.2 (σ18.2 a0 2) 2)) v4) (zlt (zpi σ18 (σ18.2 (σ18.2 a0 2) 2) v4.toNatClampNeg v10) (fun σ20 => zck (WC.2 (σ20.2 a0 2) = (3, 0)) (zck (zok 100 (WC.2 (σ20.2 (σ20.2 a0 2) 3)) v4) (zlt (zpi σ20 (σ20.2 (σ20.2 a0 2) 3) v4.toNatClampNeg v15) (fun σ22 => zck (WC.2 (σ22.2 a0 2) = (3, 0)) (zlt (zpi σ22 (σ22.2 a0 2) 11 ((σ22.1 (σ22.2 a0 2) 11) + (1 : Int32))) (fun σ24 => zck (zb (1 : Int32)) (some ((1 : Int32), σ24))))))))))) (f_X8_readOver_82 a0 v12 σ18))))))))))))))) (zbd (f_X8_blame a0 (5 : Int32) σ) (fun r25 σ26 => zck (zb r25) (some (r25, σ26)))))))
theorem c_X8_readOver (X : zX) (d : Nat) (hd : 11 ≤ d) (a0 : Nat) (σ : zS) : ∀ (r : Int32) (σ' : zS), f_X8_readOver a0 σ = some (r, σ') → zCN X WC d M_X8_readOver [.ref a0] σ (zeI r, σ') := by
  obtain ⟨d, rfl⟩ : ∃ e, d = e + 1 := ⟨d - 1, by omega⟩
  refine z_entry [.ref a0] (by decide +kernel) T_X8_readOver (Nat.le_of_ble_eq_true rfl) ?_
  show zK X WC (zrm (d + 1)) M_X8_readOver (zZ X WC zeI) 0 [some (.ref a0), none, none, none, none] [] σ (f_X8_readOver a0 σ)
  unfold f_X8_readOver
  refine z_ck (fun h0 => ?_)
  refine z_aload0 0 1 rfl rfl ?_
  refine z_getR 1 4 2 rfl rfl zf_X8_28 rfl h0 ?_
  refine z_ck (fun h3 => ?_)
  refine z_getI 2 7 11 rfl rfl zf_X8_158 rfl h3 ?_
  refine z_istore1 3 8 rfl rfl rfl (fun v4 => ?_)
  refine z_iload1 4 9 rfl rfl ?_
  refine z_bipush 5 11 rfl rfl cb_6 ?_
  refine z_icmp_lt 6 14 20 rfl rfl (by decide) ?_ ?_
  · refine z_aload0 11 21 rfl rfl ?_
    refine z_getR 12 24 0 rfl rfl zf_X8_12 rfl h0 ?_
    refine z_ck (fun h5 => ?_)
    refine z_cV0V 13 27 rfl rfl zl_X8_56 F_X9_next (zR_rm (by omega)) (c_X9_next X d (by omega) (σ.2 a0 0) σ) ⟨by decide, rfl, rfl⟩ h5 rfl (Nat.le_of_ble_eq_true rfl) (fun r6 σ7 => ?_)
    refine z_aload0 14 28 rfl rfl ?_
    refine z_iconst 15 29 rfl rfl ci_2 ?_
    refine z_cV1I 16 32 rfl rfl zl_X8_161 F_X8_passName (zR_rm (by omega)) (c_X8_passName X d (by omega) a0 (2 : Int32) σ7) ⟨by decide, rfl, rfl⟩ h0 rfl (Nat.le_of_ble_eq_true rfl) (fun r8 σ9 => ?_)
    refine z_istore2 17 33 rfl rfl rfl (fun v10 => ?_)
    refine z_iload2 18 34 rfl rfl ?_
    refine z_iconst 19 35 rfl rfl ci_m1 ?_
    refine z_icmp_ne 20 38 40 rfl rfl (by decide) ?_ ?_
    · refine z_iconst 21 39 rfl rfl ci_0 ?_
      exact z_zret 22 rfl rfl
    · refine z_aload0 23 41 rfl rfl ?_
      refine z_getR 24 44 0 rfl rfl zf_X8_12 rfl h0 ?_
      refine z_ck (fun h11 => ?_)
      refine z_getI 25 47 3 rfl rfl zf_X8_69 rfl h11 ?_
      refine z_istore3 26 48 rfl rfl rfl (fun v12 => ?_)
      refine z_aload0 27 49 rfl rfl ?_
      refine z_iconst 28 50 rfl rfl ci_2 ?_
      refine z_cV1I 29 53 rfl rfl zl_X8_161 F_X8_passName (zR_rm (by omega)) (c_X8_passName X d (by omega) a0 (2 : Int32) σ9) ⟨by decide, rfl, rfl⟩ h0 rfl (Nat.le_of_ble_eq_true rfl) (fun r13 σ14 => ?_)
      refine z_istore4 30 55 rfl rfl rfl (fun v15 => ?_)
      refine z_iload4 31 57 rfl rfl ?_
      refine z_iconst 32 58 rfl rfl ci_m1 ?_
      refine z_icmp_ne 33 61 63 rfl rfl (by decide) ?_ ?_
      · refine z_iconst 34 62 rfl rfl ci_0 ?_
        exact z_zret 35 rfl rfl
      · refine z_iload2 36 64 rfl rfl ?_
        refine z_iload4 37 66 rfl rfl ?_
        refine z_icmp_eq 38 69 82 rfl rfl (by decide) ?_ ?_
        · exact z_wk (zle_e (zle_n (zle_n (zle_e (zle_n zle_0))))) (t_X8_readOver_82 X d hd a0 h0  v12 σ14)
        · refine z_aload0 39 70 rfl rfl ?_
          refine z_getR 40 73 2 rfl rfl zf_X8_28 rfl h0 ?_
          refine z_iload2 41 74 rfl rfl ?_
          refine z_iload4 42 76 rfl rfl ?_
          refine z_ck (fun h16 => ?_)
          refine z_cV2I 43 79 rfl rfl zl_X8_165 F_X3_hasOver (zR_rm (by omega)) (c_X3_hasOver X d (σ14.2 a0 2) v10 v15 σ14) ⟨by decide, rfl, rfl⟩ h16 rfl (Nat.le_of_ble_eq_true rfl) (fun r17 σ18 => ?_)
          refine z_if_eq 44 82 89 rfl rfl (by decide) ?_ ?_
          · refine z_aload0 50 90 rfl rfl ?_
            refine z_getR 51 93 2 rfl rfl zf_X8_28 rfl h0 ?_
            refine z_ck (fun h19 => ?_)
            refine z_getR 52 96 2 rfl rfl zf_X8_168 rfl h19 ?_
            refine z_iload1 53 97 rfl rfl ?_
            refine z_iload2 54 98 rfl rfl ?_
            refine z_iast 55 99 rfl rfl (fun σ20 => ?_)
            refine z_aload0 56 100 rfl rfl ?_
            refine z_getR 57 103 2 rfl rfl zf_X8_28 rfl h0 ?_
            refine z_ck (fun h21 => ?_)
            refine z_getR 58 106 3 rfl rfl zf_X8_171 rfl h21 ?_
            refine z_iload1 59 107 rfl rfl ?_
            refine z_iload4 60 109 rfl rfl ?_
            refine z_iast 61 110 rfl rfl (fun σ22 => ?_)
            refine z_aload0 62 111 rfl rfl ?_
            refine z_getR 63 114 2 rfl rfl zf_X8_28 rfl h0 ?_
            refine z_dup 64 115 rfl rfl rfl ?_
            refine z_ck (fun h23 => ?_)
            refine z_getI 65 118 11 rfl rfl zf_X8_158 rfl h23 ?_
            refine z_iconst 66 119 rfl rfl ci_1 ?_
            refine z_iadd 67 120 rfl rfl ?_
            refine z_putI 68 123 11 rfl rfl zf_X8_158 rfl rfl rfl h23 (fun σ24 => ?_)
            refine z_iconst 69 124 rfl rfl ci_1 ?_
            exact z_zret 70 rfl rfl
          · exact z_wk (zle_e (zle_n (zle_n (zle_e (zle_n zle_0))))) (t_X8_readOver_82 X d hd a0 h0  v12 σ18)
  · refine z_aload0 7 15 rfl rfl ?_
    refine z_iconst 8 16 rfl rfl ci_5 ?_
    refine z_cV1I 9 19 rfl rfl zl_X8_62 F_X8_blame (zR_rm (by omega)) (c_X8_blame X d (by omega) a0 (5 : Int32) σ) ⟨by decide, rfl, rfl⟩ h0 rfl (Nat.le_of_ble_eq_true rfl) (fun r25 σ26 => ?_)
    exact z_zret 10 rfl rfl
def f_X8_readHand (a0 : Nat) (σ : zS) : Option (Int32 × zS) := zck (WC.2 a0 = (8, 0)) (zck (WC.2 (σ.2 a0 2) = (3, 0)) (zlt (σ.1 (σ.2 a0 2) 12) (fun v2 => zbr (v2 < (4 : Int32)) (zck (WC.2 (σ.2 a0 0) = (9, 0)) (zbd (f_X9_next (σ.2 a0 0) σ) (fun r4 σ5 => zbd (f_X8_passNewName a0 (4 : Int32) v2 σ5) (fun r6 σ7 => zbr (r6 = 0) (zck (zb (0 : Int32)) (some ((0 : Int32), σ7))) (zbd (f_X8_passWord a0 (1000 + 12) σ7) (fun r8 σ9 => zbr (r8 = 0) (zck (zb (0 : Int32)) (some ((0 : Int32), σ9))) (zbd (f_X8_isWhole a0 (0 : Int32) (99 : Int32) σ9) (fun r10 σ11 => zbr (r10 = 0) (zck (zb (0 : Int32)) (some ((0 : Int32), σ11))) (zck (WC.2 (σ11.2 a0 2) = (3, 0)) (zbd (f_X8_passNumber a0 σ11) (fun r13 σ14 => zck (zok 100 (WC.2 (σ11.2 (σ11.2 a0 2) 4)) v2) (zlt (zpi σ14 (σ11.2 (σ11.2 a0 2) 4) v2.toNatClampNeg r13) (fun σ15 => zck (WC.2 (σ15.2 a0 2) = (3, 0)) (zlt (zpi σ15 (σ15.2 a0 2) 12 ((σ15.1 (σ15.2 a0 2) 12) + (1 : Int32))) (fun σ17 => zck (zb (1 : Int32)) (some ((1 : Int32), σ17))))))))))))))))) (zbd (f_X8_blame a0 (5 : Int32) σ) (fun r18 σ19 => zck (zb r18) (some (r18, σ19)))))))
theorem c_X8_readHand (X : zX) (d : Nat) (hd : 11 ≤ d) (a0 : Nat) (σ : zS) : ∀ (r : Int32) (σ' : zS), f_X8_readHand a0 σ = some (r, σ') → zCN X WC d M_X8_readHand [.ref a0] σ (zeI r, σ') := by
  obtain ⟨d, rfl⟩ : ∃ e, d = e + 1 := ⟨d - 1, by omega⟩
  refine z_entry [.ref a0] (by decide +kernel) T_X8_readHand (Nat.le_of_ble_eq_true rfl) ?_
  show zK X WC (zrm (d + 1)) M_X8_readHand (zZ X WC zeI) 0 [some (.ref a0), none] [] σ (f_X8_readHand a0 σ)
  unfold f_X8_readHand
  refine z_ck (fun h0 => ?_)
  refine z_aload0 0 1 rfl rfl ?_
  refine z_getR 1 4 2 rfl rfl zf_X8_28 rfl h0 ?_
  refine z_ck (fun h1 => ?_)
  refine z_getI 2 7 12 rfl rfl zf_X8_174 rfl h1 ?_
  refine z_istore1 3 8 rfl rfl rfl (fun v2 => ?_)
  refine z_iload1 4 9 rfl rfl ?_
  refine z_iconst 5 10 rfl rfl ci_4 ?_
  refine z_icmp_lt 6 13 19 rfl rfl (by decide) ?_ ?_
  · refine z_aload0 11 20 rfl rfl ?_
    refine z_getR 12 23 0 rfl rfl zf_X8_12 rfl h0 ?_
    refine z_ck (fun h3 => ?_)
    refine z_cV0V 13 26 rfl rfl zl_X8_56 F_X9_next (zR_rm (by omega)) (c_X9_next X d (by omega) (σ.2 a0 0) σ) ⟨by decide, rfl, rfl⟩ h3 rfl (Nat.le_of_ble_eq_true rfl) (fun r4 σ5 => ?_)
    refine z_aload0 14 27 rfl rfl ?_
    refine z_iconst 15 28 rfl rfl ci_4 ?_
    refine z_iload1 16 29 rfl rfl ?_
    refine z_cV2I 17 32 rfl rfl zl_X8_139 F_X8_passNewName (zR_rm (by omega)) (c_X8_passNewName X d (by omega) a0 (4 : Int32) v2 σ5) ⟨by decide, rfl, rfl⟩ h0 rfl (Nat.le_of_ble_eq_true rfl) (fun r6 σ7 => ?_)
    refine z_if_eq 18 35 54 rfl rfl (by decide) ?_ ?_
    · refine z_iconst 28 55 rfl rfl ci_0 ?_
      exact z_zret 29 rfl rfl
    · refine z_aload0 19 36 rfl rfl ?_
      refine z_ldcS 20 38 12 rfl rfl (tx := "purse") (List.mem_of_getElem? (i := 12) rfl) ?_
      refine z_cV1I 21 41 rfl rfl zl_X8_104 F_X8_passWord (zR_rm (by omega)) (c_X8_passWord X d (by omega) a0 (1000 + 12) σ7) ⟨by decide, rfl, rfl⟩ h0 rfl (Nat.le_of_ble_eq_true rfl) (fun r8 σ9 => ?_)
      refine z_if_eq 22 44 54 rfl rfl (by decide) ?_ ?_
      · refine z_iconst 28 55 rfl rfl ci_0 ?_
        exact z_zret 29 rfl rfl
      · refine z_aload0 23 45 rfl rfl ?_
        refine z_iconst 24 46 rfl rfl ci_0 ?_
        refine z_bipush 25 48 rfl rfl cb_99 ?_
        refine z_cV2I 26 51 rfl rfl zl_X8_107 F_X8_isWhole (zR_rm (by omega)) (c_X8_isWhole X d (by omega) a0 (0 : Int32) (99 : Int32) σ9) ⟨by decide, rfl, rfl⟩ h0 rfl (Nat.le_of_ble_eq_true rfl) (fun r10 σ11 => ?_)
        refine z_if_ne 27 54 56 rfl rfl (by decide) ?_ ?_
        · refine z_iconst 28 55 rfl rfl ci_0 ?_
          exact z_zret 29 rfl rfl
        · refine z_aload0 30 57 rfl rfl ?_
          refine z_getR 31 60 2 rfl rfl zf_X8_28 rfl h0 ?_
          refine z_ck (fun h12 => ?_)
          refine z_getR 32 63 4 rfl rfl zf_X8_179 rfl h12 ?_
          refine z_iload1 33 64 rfl rfl ?_
          refine z_aload0 34 65 rfl rfl ?_
          refine z_cV0I 35 68 rfl rfl zl_X8_110 F_X8_passNumber (zR_rm (by omega)) (c_X8_passNumber X d (by omega) a0 σ11) ⟨by decide, rfl, rfl⟩ h0 rfl (Nat.le_of_ble_eq_true rfl) (fun r13 σ14 => ?_)
          refine z_iast 36 69 rfl rfl (fun σ15 => ?_)
          refine z_aload0 37 70 rfl rfl ?_
          refine z_getR 38 73 2 rfl rfl zf_X8_28 rfl h0 ?_
          refine z_dup 39 74 rfl rfl rfl ?_
          refine z_ck (fun h16 => ?_)
          refine z_getI 40 77 12 rfl rfl zf_X8_174 rfl h16 ?_
          refine z_iconst 41 78 rfl rfl ci_1 ?_
          refine z_iadd 42 79 rfl rfl ?_
          refine z_putI 43 82 12 rfl rfl zf_X8_174 rfl rfl rfl h16 (fun σ17 => ?_)
          refine z_iconst 44 83 rfl rfl ci_1 ?_
          exact z_zret 45 rfl rfl
  · refine z_aload0 7 14 rfl rfl ?_
    refine z_iconst 8 15 rfl rfl ci_5 ?_
    refine z_cV1I 9 18 rfl rfl zl_X8_62 F_X8_blame (zR_rm (by omega)) (c_X8_blame X d (by omega) a0 (5 : Int32) σ) ⟨by decide, rfl, rfl⟩ h0 rfl (Nat.le_of_ble_eq_true rfl) (fun r18 σ19 => ?_)
    exact z_zret 10 rfl rfl
def f_X8_readMatter (a0 : Nat) (σ : zS) : Option (Int32 × zS) := zck (WC.2 a0 = (8, 0)) (zck (WC.2 (σ.2 a0 2) = (3, 0)) (zlt (σ.1 (σ.2 a0 2) 13) (fun v2 => zbr (v2 < (4 : Int32)) (zck (WC.2 (σ.2 a0 0) = (9, 0)) (zbd (f_X9_next (σ.2 a0 0) σ) (fun r4 σ5 => zbd (f_X8_passNewName a0 (5 : Int32) v2 σ5) (fun r6 σ7 => zbr (r6 = 0) (zck (zb (0 : Int32)) (some ((0 : Int32), σ7))) (zck (WC.2 (σ7.2 a0 2) = (3, 0)) (zck (zok 100 (WC.2 (σ7.2 (σ7.2 a0 2) 5)) v2) (zlt (zpi σ7 (σ7.2 (σ7.2 a0 2) 5) v2.toNatClampNeg (-1 : Int32)) (fun σ9 => zck (WC.2 (σ9.2 a0 2) = (3, 0)) (zlt (zpi σ9 (σ9.2 a0 2) 13 ((σ9.1 (σ9.2 a0 2) 13) + (1 : Int32))) (fun σ11 => zck (zb (1 : Int32)) (some ((1 : Int32), σ11)))))))))))) (zbd (f_X8_blame a0 (5 : Int32) σ) (fun r12 σ13 => zck (zb r12) (some (r12, σ13)))))))
theorem c_X8_readMatter (X : zX) (d : Nat) (hd : 11 ≤ d) (a0 : Nat) (σ : zS) : ∀ (r : Int32) (σ' : zS), f_X8_readMatter a0 σ = some (r, σ') → zCN X WC d M_X8_readMatter [.ref a0] σ (zeI r, σ') := by
  obtain ⟨d, rfl⟩ : ∃ e, d = e + 1 := ⟨d - 1, by omega⟩
  refine z_entry [.ref a0] (by decide +kernel) T_X8_readMatter (Nat.le_of_ble_eq_true rfl) ?_
  show zK X WC (zrm (d + 1)) M_X8_readMatter (zZ X WC zeI) 0 [some (.ref a0), none] [] σ (f_X8_readMatter a0 σ)
  unfold f_X8_readMatter
  refine z_ck (fun h0 => ?_)
  refine z_aload0 0 1 rfl rfl ?_
  refine z_getR 1 4 2 rfl rfl zf_X8_28 rfl h0 ?_
  refine z_ck (fun h1 => ?_)
  refine z_getI 2 7 13 rfl rfl zf_X8_181 rfl h1 ?_
  refine z_istore1 3 8 rfl rfl rfl (fun v2 => ?_)
  refine z_iload1 4 9 rfl rfl ?_
  refine z_iconst 5 10 rfl rfl ci_4 ?_
  refine z_icmp_lt 6 13 19 rfl rfl (by decide) ?_ ?_
  · refine z_aload0 11 20 rfl rfl ?_
    refine z_getR 12 23 0 rfl rfl zf_X8_12 rfl h0 ?_
    refine z_ck (fun h3 => ?_)
    refine z_cV0V 13 26 rfl rfl zl_X8_56 F_X9_next (zR_rm (by omega)) (c_X9_next X d (by omega) (σ.2 a0 0) σ) ⟨by decide, rfl, rfl⟩ h3 rfl (Nat.le_of_ble_eq_true rfl) (fun r4 σ5 => ?_)
    refine z_aload0 14 27 rfl rfl ?_
    refine z_iconst 15 28 rfl rfl ci_5 ?_
    refine z_iload1 16 29 rfl rfl ?_
    refine z_cV2I 17 32 rfl rfl zl_X8_139 F_X8_passNewName (zR_rm (by omega)) (c_X8_passNewName X d (by omega) a0 (5 : Int32) v2 σ5) ⟨by decide, rfl, rfl⟩ h0 rfl (Nat.le_of_ble_eq_true rfl) (fun r6 σ7 => ?_)
    refine z_if_ne 18 35 37 rfl rfl (by decide) ?_ ?_
    · refine z_iconst 19 36 rfl rfl ci_0 ?_
      exact z_zret 20 rfl rfl
    · refine z_aload0 21 38 rfl rfl ?_
      refine z_getR 22 41 2 rfl rfl zf_X8_28 rfl h0 ?_
      refine z_ck (fun h8 => ?_)
      refine z_getR 23 44 5 rfl rfl zf_X8_184 rfl h8 ?_
      refine z_iload1 24 45 rfl rfl ?_
      refine z_iconst 25 46 rfl rfl ci_m1 ?_
      refine z_iast 26 47 rfl rfl (fun σ9 => ?_)
      refine z_aload0 27 48 rfl rfl ?_
      refine z_getR 28 51 2 rfl rfl zf_X8_28 rfl h0 ?_
      refine z_dup 29 52 rfl rfl rfl ?_
      refine z_ck (fun h10 => ?_)
      refine z_getI 30 55 13 rfl rfl zf_X8_181 rfl h10 ?_
      refine z_iconst 31 56 rfl rfl ci_1 ?_
      refine z_iadd 32 57 rfl rfl ?_
      refine z_putI 33 60 13 rfl rfl zf_X8_181 rfl rfl rfl h10 (fun σ11 => ?_)
      refine z_iconst 34 61 rfl rfl ci_1 ?_
      exact z_zret 35 rfl rfl
  · refine z_aload0 7 14 rfl rfl ?_
    refine z_iconst 8 15 rfl rfl ci_5 ?_
    refine z_cV1I 9 18 rfl rfl zl_X8_62 F_X8_blame (zR_rm (by omega)) (c_X8_blame X d (by omega) a0 (5 : Int32) σ) ⟨by decide, rfl, rfl⟩ h0 rfl (Nat.le_of_ble_eq_true rfl) (fun r12 σ13 => ?_)
    exact z_zret 10 rfl rfl
def f_X8_sayAtHand (a0 : Nat) (σ : zS) : Option (Int32 × zS) := zck (WC.2 a0 = (8, 0)) (zck (WC.2 (σ.2 a0 0) = (9, 0)) (zbd (f_X9_isWord (σ.2 a0 0) (1000 + 13) σ) (fun r2 σ3 => zbr (r2 = 0) (zck (WC.2 (σ3.2 a0 0) = (9, 0)) (zbd (f_X9_isWord (σ3.2 a0 0) (1000 + 14) σ3) (fun r5 σ6 => zbr (r5 = 0) (some ((-1 : Int32), σ6)) (some ((0 : Int32), σ6))))) (some ((1 : Int32), σ3)))))
theorem c_X8_sayAtHand (X : zX) (d : Nat) (hd : 9 ≤ d) (a0 : Nat) (σ : zS) : ∀ (r : Int32) (σ' : zS), f_X8_sayAtHand a0 σ = some (r, σ') → zCN X WC d M_X8_sayAtHand [.ref a0] σ (zeI r, σ') := by
  obtain ⟨d, rfl⟩ : ∃ e, d = e + 1 := ⟨d - 1, by omega⟩
  refine z_entry [.ref a0] (by decide +kernel) T_X8_sayAtHand (Nat.le_of_ble_eq_true rfl) ?_
  show zK X WC (zrm (d + 1)) M_X8_sayAtHand (zZ X WC zeI) 0 [some (.ref a0)] [] σ (f_X8_sayAtHand a0 σ)
  unfold f_X8_sayAtHand
  refine z_ck (fun h0 => ?_)
  refine z_aload0 0 1 rfl rfl ?_
  refine z_getR 1 4 0 rfl rfl zf_X8_12 rfl h0 ?_
  refine z_ldcS 2 6 13 rfl rfl (tx := "do") (List.mem_of_getElem? (i := 13) rfl) ?_
  refine z_ck (fun h1 => ?_)
  refine z_cV1I 3 9 rfl rfl zl_X8_78 F_X9_isWord (zR_rm (by omega)) (c_X9_isWord X d (by omega) (σ.2 a0 0) (1000 + 13) σ) ⟨by decide, rfl, rfl⟩ h1 rfl (Nat.le_of_ble_eq_true rfl) (fun r2 σ3 => ?_)
  refine z_if_eq 4 12 14 rfl rfl (by decide) ?_ ?_
  · refine z_aload0 7 15 rfl rfl ?_
    refine z_getR 8 18 0 rfl rfl zf_X8_12 rfl h0 ?_
    refine z_ldcS 9 20 14 rfl rfl (tx := "not") (List.mem_of_getElem? (i := 14) rfl) ?_
    refine z_ck (fun h4 => ?_)
    refine z_cV1I 10 23 rfl rfl zl_X8_78 F_X9_isWord (zR_rm (by omega)) (c_X9_isWord X d (by omega) (σ3.2 a0 0) (1000 + 14) σ3) ⟨by decide, rfl, rfl⟩ h4 rfl (Nat.le_of_ble_eq_true rfl) (fun r5 σ6 => ?_)
    refine z_if_eq 11 26 30 rfl rfl (by decide) ?_ ?_
    · refine z_iconst 14 31 rfl rfl ci_m1 ?_
      exact z_iret 15 rfl rfl
    · refine z_iconst 12 27 rfl rfl ci_0 ?_
      refine z_goto 13 31 rfl (by decide) ?_
      exact z_iret 15 rfl rfl
  · refine z_iconst 5 13 rfl rfl ci_1 ?_
    exact z_iret 6 rfl rfl
def f_X8_readWrote_63 (a0 : Nat) (x1 : Int32) (x2 : Int32) (s0 : Int32) (σ : zS) : Option (Int32 × zS) := zlt s0 (fun v1 => zbr (v1 = (-1 : Int32)) (zck (zb (0 : Int32)) (some ((0 : Int32), σ))) (zbd (f_X8_sayAtHand a0 σ) (fun r2 σ3 => zlt r2 (fun v4 => zbr (v4 = (-1 : Int32)) (zbd (f_X8_blame a0 (1 : Int32) σ3) (fun r5 σ6 => zck (zb r5) (some (r5, σ6)))) (zck (WC.2 (σ3.2 a0 0) = (9, 0)) (zbd (f_X9_next (σ3.2 a0 0) σ3) (fun r8 σ9 => zbd (f_X8_passWord a0 (1000 + 15) σ9) (fun r10 σ11 => zbr (r10 = 0) (zck (zb (0 : Int32)) (some ((0 : Int32), σ11))) (zbd (f_X8_isWhole a0 (1 : Int32) (9 : Int32) σ11) (fun r12 σ13 => zbr (r12 = 0) (zck (zb (0 : Int32)) (some ((0 : Int32), σ13))) (zck (WC.2 (σ13.2 a0 0) = (9, 0)) (zck (WC.2 (σ13.2 a0 2) = (3, 0)) (zck (zok 100 (WC.2 (σ13.2 (σ13.2 a0 2) 1)) x2) (zck (WC.2 (σ13.2 (σ13.2 a0 2) 7) = (6, 0)) (zbd (f_X6_inchesAt (σ13.2 (σ13.2 a0 2) 7) x2 σ13) (fun r17 σ18 => zbr ((σ13.1 (σ13.2 a0 0) 6) ≤ ((σ13.1 (σ13.2 (σ13.2 a0 2) 1) x2.toNatClampNeg) - r17)) (zck (WC.2 (σ18.2 a0 2) = (3, 0)) (zbd (f_X8_passNumber a0 σ18) (fun r20 σ21 => zck (WC.2 (σ18.2 (σ18.2 a0 2) 7) = (6, 0)) (zbd (f_X6_add (σ18.2 (σ18.2 a0 2) 7) x1 x2 v1 v4 r20 σ21) (fun r23 σ24 => zck (zb (1 : Int32)) (some ((1 : Int32), σ24))))))) (zbd (f_X8_blame a0 (7 : Int32) σ18) (fun r25 σ26 => zck (zb r25) (some (r25, σ26))))))))))))))))))))
theorem t_X8_readWrote_63 (X : zX) (d : Nat) (hd : 11 ≤ d + 1) (a0 : Nat) (h0 : WC.2 a0 = (8, 0)) (x1 : Int32) (x2 : Int32) (s0 : Int32) (σ : zS) : zK X WC (zrm (d + 1)) M_X8_readWrote (zZ X WC zeI) 63 [some (.ref a0), some (.int x1), some (.int x2), none, none] [.int s0] σ (f_X8_readWrote_63 a0 x1 x2 s0 σ) := by
  unfold f_X8_readWrote_63
  refine z_istore3 34 64 rfl rfl rfl (fun v1 => ?_)
  refine z_iload3 35 65 rfl rfl ?_
  refine z_iconst 36 66 rfl rfl ci_m1 ?_
  refine z_icmp_ne 37 69 71 rfl rfl (by decide) ?_ ?_
  · refine z_iconst 38 70 rfl rfl ci_0 ?_
    exact z_zret 39 rfl rfl
  · refine z_aload0 40 72 rfl rfl ?_
    refine z_cV0I 41 75 rfl rfl zl_X8_194 F_X8_sayAtHand (zR_rm (by omega)) (c_X8_sayAtHand X d (by omega) a0 σ) ⟨by decide, rfl, rfl⟩ h0 rfl (Nat.le_of_ble_eq_true rfl) (fun r2 σ3 => ?_)
    refine z_istore4 42 77 rfl rfl rfl (fun v4 => ?_)
    refine z_iload4 43 79 rfl rfl ?_
    refine z_iconst 44 80 rfl rfl ci_m1 ?_
    refine z_icmp_ne 45 83 89 rfl rfl (by decide) ?_ ?_
    · refine z_aload0 46 84 rfl rfl ?_
      refine z_iconst 47 85 rfl rfl ci_1 ?_
      refine z_cV1I 48 88 rfl rfl zl_X8_62 F_X8_blame (zR_rm (by omega)) (c_X8_blame X d (by omega) a0 (1 : Int32) σ3) ⟨by decide, rfl, rfl⟩ h0 rfl (Nat.le_of_ble_eq_true rfl) (fun r5 σ6 => ?_)
      exact z_zret 49 rfl rfl
    · refine z_aload0 50 90 rfl rfl ?_
      refine z_getR 51 93 0 rfl rfl zf_X8_12 rfl h0 ?_
      refine z_ck (fun h7 => ?_)
      refine z_cV0V 52 96 rfl rfl zl_X8_56 F_X9_next (zR_rm (by omega)) (c_X9_next X d (by omega) (σ3.2 a0 0) σ3) ⟨by decide, rfl, rfl⟩ h7 rfl (Nat.le_of_ble_eq_true rfl) (fun r8 σ9 => ?_)
      refine z_aload0 53 97 rfl rfl ?_
      refine z_ldcS 54 99 15 rfl rfl (tx := "inches") (List.mem_of_getElem? (i := 15) rfl) ?_
      refine z_cV1I 55 102 rfl rfl zl_X8_104 F_X8_passWord (zR_rm (by omega)) (c_X8_passWord X d (by omega) a0 (1000 + 15) σ9) ⟨by decide, rfl, rfl⟩ h0 rfl (Nat.le_of_ble_eq_true rfl) (fun r10 σ11 => ?_)
      refine z_if_eq 56 105 115 rfl rfl (by decide) ?_ ?_
      · refine z_iconst 62 116 rfl rfl ci_0 ?_
        exact z_zret 63 rfl rfl
      · refine z_aload0 57 106 rfl rfl ?_
        refine z_iconst 58 107 rfl rfl ci_1 ?_
        refine z_bipush 59 109 rfl rfl cb_9 ?_
        refine z_cV2I 60 112 rfl rfl zl_X8_107 F_X8_isWhole (zR_rm (by omega)) (c_X8_isWhole X d (by omega) a0 (1 : Int32) (9 : Int32) σ11) ⟨by decide, rfl, rfl⟩ h0 rfl (Nat.le_of_ble_eq_true rfl) (fun r12 σ13 => ?_)
        refine z_if_ne 61 115 117 rfl rfl (by decide) ?_ ?_
        · refine z_iconst 62 116 rfl rfl ci_0 ?_
          exact z_zret 63 rfl rfl
        · refine z_aload0 64 118 rfl rfl ?_
          refine z_getR 65 121 0 rfl rfl zf_X8_12 rfl h0 ?_
          refine z_ck (fun h14 => ?_)
          refine z_getI 66 124 6 rfl rfl zf_X8_144 rfl h14 ?_
          refine z_aload0 67 125 rfl rfl ?_
          refine z_getR 68 128 2 rfl rfl zf_X8_28 rfl h0 ?_
          refine z_ck (fun h15 => ?_)
          refine z_getR 69 131 1 rfl rfl zf_X8_155 rfl h15 ?_
          refine z_iload2 70 132 rfl rfl ?_
          refine z_iald 71 133 rfl rfl ?_
          refine z_aload0 72 134 rfl rfl ?_
          refine z_getR 73 137 2 rfl rfl zf_X8_28 rfl h0 ?_
          refine z_getR 74 140 7 rfl rfl zf_X8_187 rfl h15 ?_
          refine z_iload2 75 141 rfl rfl ?_
          refine z_ck (fun h16 => ?_)
          refine z_cV1I 76 144 rfl rfl zl_X8_198 F_X6_inchesAt (zR_rm (by omega)) (c_X6_inchesAt X d (σ13.2 (σ13.2 a0 2) 7) x2 σ13) ⟨by decide, rfl, rfl⟩ h16 rfl (Nat.le_of_ble_eq_true rfl) (fun r17 σ18 => ?_)
          refine z_isub 77 145 rfl rfl ?_
          refine z_icmp_le 78 148 155 rfl rfl (by decide) ?_ ?_
          · refine z_aload0 83 156 rfl rfl ?_
            refine z_getR 84 159 2 rfl rfl zf_X8_28 rfl h0 ?_
            refine z_ck (fun h19 => ?_)
            refine z_getR 85 162 7 rfl rfl zf_X8_187 rfl h19 ?_
            refine z_iload1 86 163 rfl rfl ?_
            refine z_iload2 87 164 rfl rfl ?_
            refine z_iload3 88 165 rfl rfl ?_
            refine z_iload4 89 167 rfl rfl ?_
            refine z_aload0 90 168 rfl rfl ?_
            refine z_cV0I 91 171 rfl rfl zl_X8_110 F_X8_passNumber (zR_rm (by omega)) (c_X8_passNumber X d (by omega) a0 σ18) ⟨by decide, rfl, rfl⟩ h0 rfl (Nat.le_of_ble_eq_true rfl) (fun r20 σ21 => ?_)
            refine z_ck (fun h22 => ?_)
            refine z_cV5V 92 174 rfl rfl zl_X8_201 F_X6_add (zR_rm (by omega)) (c_X6_add X d (σ18.2 (σ18.2 a0 2) 7) x1 x2 v1 v4 r20 σ21) ⟨by decide, rfl, rfl⟩ h22 rfl (Nat.le_of_ble_eq_true rfl) (fun r23 σ24 => ?_)
            refine z_iconst 93 175 rfl rfl ci_1 ?_
            exact z_zret 94 rfl rfl
          · refine z_aload0 79 149 rfl rfl ?_
            refine z_bipush 80 151 rfl rfl cb_7 ?_
            refine z_cV1I 81 154 rfl rfl zl_X8_62 F_X8_blame (zR_rm (by omega)) (c_X8_blame X d (by omega) a0 (7 : Int32) σ18) ⟨by decide, rfl, rfl⟩ h0 rfl (Nat.le_of_ble_eq_true rfl) (fun r25 σ26 => ?_)
            exact z_zret 82 rfl rfl
def f_X8_readWrote_48 (a0 : Nat) (x1 : Int32) (s0 : Int32) (σ : zS) : Option (Int32 × zS) := zlt s0 (fun v27 => zbr (v27 = (-1 : Int32)) (f_X8_readWrote_63 a0 x1 v27 (-1 : Int32) σ) (zbd (f_X8_passName a0 (5 : Int32) σ) (fun r28 σ29 => f_X8_readWrote_63 a0 x1 v27 r28 σ29)))
theorem t_X8_readWrote_48 (X : zX) (d : Nat) (hd : 11 ≤ d + 1) (a0 : Nat) (h0 : WC.2 a0 = (8, 0)) (x1 : Int32) (s0 : Int32) (σ : zS) : zK X WC (zrm (d + 1)) M_X8_readWrote (zZ X WC zeI) 48 [some (.ref a0), some (.int x1), none, none, none] [.int s0] σ (f_X8_readWrote_48 a0 x1 s0 σ) := by
  unfold f_X8_readWrote_48
  refine z_istore2 25 49 rfl rfl rfl (fun v27 => ?_)
  refine z_iload2 26 50 rfl rfl ?_
  refine z_iconst 27 51 rfl rfl ci_m1 ?_
  refine z_icmp_ne 28 54 58 rfl rfl (by decide) ?_ ?_
  · refine z_iconst 29 55 rfl rfl ci_m1 ?_
    refine z_goto 30 63 rfl (by decide) ?_
    exact t_X8_readWrote_63 X d hd a0 h0  x1 v27 (-1 : Int32) σ
  · refine z_aload0 31 59 rfl rfl ?_
    refine z_iconst 32 60 rfl rfl ci_5 ?_
    refine z_cV1I 33 63 rfl rfl zl_X8_161 F_X8_passName (zR_rm (by omega)) (c_X8_passName X d (by omega) a0 (5 : Int32) σ) ⟨by decide, rfl, rfl⟩ h0 rfl (Nat.le_of_ble_eq_true rfl) (fun r28 σ29 => ?_)
    exact t_X8_readWrote_63 X d hd a0 h0  x1 v27 r28 σ29
def f_X8_readWrote (a0 : Nat) (σ : zS) : Option (Int32 × zS) := zck (WC.2 a0 = (8, 0)) (zck (WC.2 (σ.2 a0 2) = (3, 0)) (zck (WC.2 (σ.2 (σ.2 a0 2) 7) = (6, 0)) (zbr ((σ.1 (σ.2 (σ.2 a0 2) 7) 5) < (8 : Int32)) (zck (WC.2 (σ.2 a0 0) = (9, 0)) (zbd (f_X9_next (σ.2 a0 0) σ) (fun r33 σ34 => zbd (f_X8_passName a0 (4 : Int32) σ34) (fun r35 σ36 => zlt r35 (fun v37 => zbr (v37 = (-1 : Int32)) (f_X8_readWrote_48 a0 v37 (-1 : Int32) σ36) (zbd (f_X8_passName a0 (2 : Int32) σ36) (fun r38 σ39 => f_X8_readWrote_48 a0 v37 r38 σ39))))))) (zbd (f_X8_blame a0 (5 : Int32) σ) (fun r40 σ41 => zck (zb r40) (some (r40, σ41)))))))
theorem c_X8_readWrote (X : zX) (d : Nat) (hd : 11 ≤ d) (a0 : Nat) (σ : zS) : ∀ (r : Int32) (σ' : zS), f_X8_readWrote a0 σ = some (r, σ') → zCN X WC d M_X8_readWrote [.ref a0] σ (zeI r, σ') := by
  obtain ⟨d, rfl⟩ : ∃ e, d = e + 1 := ⟨d - 1, by omega⟩
  refine z_entry [.ref a0] (by decide +kernel) T_X8_readWrote (Nat.le_of_ble_eq_true rfl) ?_
  show zK X WC (zrm (d + 1)) M_X8_readWrote (zZ X WC zeI) 0 [some (.ref a0), none, none, none, none] [] σ (f_X8_readWrote a0 σ)
  unfold f_X8_readWrote
  refine z_ck (fun h0 => ?_)
  refine z_aload0 0 1 rfl rfl ?_
  refine z_getR 1 4 2 rfl rfl zf_X8_28 rfl h0 ?_
  refine z_ck (fun h30 => ?_)
  refine z_getR 2 7 7 rfl rfl zf_X8_187 rfl h30 ?_
  refine z_ck (fun h31 => ?_)
  refine z_getI 3 10 5 rfl rfl zf_X8_191 rfl h31 ?_
  refine z_bipush 4 12 rfl rfl cb_8 ?_
  refine z_icmp_lt 5 15 21 rfl rfl (by decide) ?_ ?_
  · refine z_aload0 10 22 rfl rfl ?_
    refine z_getR 11 25 0 rfl rfl zf_X8_12 rfl h0 ?_
    refine z_ck (fun h32 => ?_)
    refine z_cV0V 12 28 rfl rfl zl_X8_56 F_X9_next (zR_rm (by omega)) (c_X9_next X d (by omega) (σ.2 a0 0) σ) ⟨by decide, rfl, rfl⟩ h32 rfl (Nat.le_of_ble_eq_true rfl) (fun r33 σ34 => ?_)
    refine z_aload0 13 29 rfl rfl ?_
    refine z_iconst 14 30 rfl rfl ci_4 ?_
    refine z_cV1I 15 33 rfl rfl zl_X8_161 F_X8_passName (zR_rm (by omega)) (c_X8_passName X d (by omega) a0 (4 : Int32) σ34) ⟨by decide, rfl, rfl⟩ h0 rfl (Nat.le_of_ble_eq_true rfl) (fun r35 σ36 => ?_)
    refine z_istore1 16 34 rfl rfl rfl (fun v37 => ?_)
    refine z_iload1 17 35 rfl rfl ?_
    refine z_iconst 18 36 rfl rfl ci_m1 ?_
    refine z_icmp_ne 19 39 43 rfl rfl (by decide) ?_ ?_
    · refine z_iconst 20 40 rfl rfl ci_m1 ?_
      refine z_goto 21 48 rfl (by decide) ?_
      exact t_X8_readWrote_48 X d hd a0 h0  v37 (-1 : Int32) σ36
    · refine z_aload0 22 44 rfl rfl ?_
      refine z_iconst 23 45 rfl rfl ci_2 ?_
      refine z_cV1I 24 48 rfl rfl zl_X8_161 F_X8_passName (zR_rm (by omega)) (c_X8_passName X d (by omega) a0 (2 : Int32) σ36) ⟨by decide, rfl, rfl⟩ h0 rfl (Nat.le_of_ble_eq_true rfl) (fun r38 σ39 => ?_)
      exact t_X8_readWrote_48 X d hd a0 h0  v37 r38 σ39
  · refine z_aload0 6 16 rfl rfl ?_
    refine z_iconst 7 17 rfl rfl ci_5 ?_
    refine z_cV1I 8 20 rfl rfl zl_X8_62 F_X8_blame (zR_rm (by omega)) (c_X8_blame X d (by omega) a0 (5 : Int32) σ) ⟨by decide, rfl, rfl⟩ h0 rfl (Nat.le_of_ble_eq_true rfl) (fun r40 σ41 => ?_)
    exact z_zret 9 rfl rfl
def f_X8_readHidden (a0 : Nat) (σ : zS) : Option (Int32 × zS) := zck (WC.2 a0 = (8, 0)) (zck (WC.2 (σ.2 a0 2) = (3, 0)) (zlt (σ.1 (σ.2 a0 2) 14) (fun v2 => zbr (v2 < (3 : Int32)) (zck (WC.2 (σ.2 a0 0) = (9, 0)) (zbd (f_X9_next (σ.2 a0 0) σ) (fun r4 σ5 => zbd (f_X8_passName a0 (2 : Int32) σ5) (fun r6 σ7 => zlt r6 (fun v8 => zbr (v8 = (-1 : Int32)) (zck (zb (0 : Int32)) (some ((0 : Int32), σ7))) (zck (WC.2 (σ7.2 a0 2) = (3, 0)) (zck (zok 100 (WC.2 (σ7.2 (σ7.2 a0 2) 6)) v2) (zlt (zpi σ7 (σ7.2 (σ7.2 a0 2) 6) v2.toNatClampNeg v8) (fun σ10 => zck (WC.2 (σ10.2 a0 2) = (3, 0)) (zlt (zpi σ10 (σ10.2 a0 2) 14 ((σ10.1 (σ10.2 a0 2) 14) + (1 : Int32))) (fun σ12 => zck (zb (1 : Int32)) (some ((1 : Int32), σ12))))))))))))) (zbd (f_X8_blame a0 (5 : Int32) σ) (fun r13 σ14 => zck (zb r13) (some (r13, σ14)))))))
theorem c_X8_readHidden (X : zX) (d : Nat) (hd : 11 ≤ d) (a0 : Nat) (σ : zS) : ∀ (r : Int32) (σ' : zS), f_X8_readHidden a0 σ = some (r, σ') → zCN X WC d M_X8_readHidden [.ref a0] σ (zeI r, σ') := by
  obtain ⟨d, rfl⟩ : ∃ e, d = e + 1 := ⟨d - 1, by omega⟩
  refine z_entry [.ref a0] (by decide +kernel) T_X8_readHidden (Nat.le_of_ble_eq_true rfl) ?_
  show zK X WC (zrm (d + 1)) M_X8_readHidden (zZ X WC zeI) 0 [some (.ref a0), none, none] [] σ (f_X8_readHidden a0 σ)
  unfold f_X8_readHidden
  refine z_ck (fun h0 => ?_)
  refine z_aload0 0 1 rfl rfl ?_
  refine z_getR 1 4 2 rfl rfl zf_X8_28 rfl h0 ?_
  refine z_ck (fun h1 => ?_)
  refine z_getI 2 7 14 rfl rfl zf_X8_205 rfl h1 ?_
  refine z_istore1 3 8 rfl rfl rfl (fun v2 => ?_)
  refine z_iload1 4 9 rfl rfl ?_
  refine z_iconst 5 10 rfl rfl ci_3 ?_
  refine z_icmp_lt 6 13 19 rfl rfl (by decide) ?_ ?_
  · refine z_aload0 11 20 rfl rfl ?_
    refine z_getR 12 23 0 rfl rfl zf_X8_12 rfl h0 ?_
    refine z_ck (fun h3 => ?_)
    refine z_cV0V 13 26 rfl rfl zl_X8_56 F_X9_next (zR_rm (by omega)) (c_X9_next X d (by omega) (σ.2 a0 0) σ) ⟨by decide, rfl, rfl⟩ h3 rfl (Nat.le_of_ble_eq_true rfl) (fun r4 σ5 => ?_)
    refine z_aload0 14 27 rfl rfl ?_
    refine z_iconst 15 28 rfl rfl ci_2 ?_
    refine z_cV1I 16 31 rfl rfl zl_X8_161 F_X8_passName (zR_rm (by omega)) (c_X8_passName X d (by omega) a0 (2 : Int32) σ5) ⟨by decide, rfl, rfl⟩ h0 rfl (Nat.le_of_ble_eq_true rfl) (fun r6 σ7 => ?_)
    refine z_istore2 17 32 rfl rfl rfl (fun v8 => ?_)
    refine z_iload2 18 33 rfl rfl ?_
    refine z_iconst 19 34 rfl rfl ci_m1 ?_
    refine z_icmp_ne 20 37 39 rfl rfl (by decide) ?_ ?_
    · refine z_iconst 21 38 rfl rfl ci_0 ?_
      exact z_zret 22 rfl rfl
    · refine z_aload0 23 40 rfl rfl ?_
      refine z_getR 24 43 2 rfl rfl zf_X8_28 rfl h0 ?_
      refine z_ck (fun h9 => ?_)
      refine z_getR 25 46 6 rfl rfl zf_X8_207 rfl h9 ?_
      refine z_iload1 26 47 rfl rfl ?_
      refine z_iload2 27 48 rfl rfl ?_
      refine z_iast 28 49 rfl rfl (fun σ10 => ?_)
      refine z_aload0 29 50 rfl rfl ?_
      refine z_getR 30 53 2 rfl rfl zf_X8_28 rfl h0 ?_
      refine z_dup 31 54 rfl rfl rfl ?_
      refine z_ck (fun h11 => ?_)
      refine z_getI 32 57 14 rfl rfl zf_X8_205 rfl h11 ?_
      refine z_iconst 33 58 rfl rfl ci_1 ?_
      refine z_iadd 34 59 rfl rfl ?_
      refine z_putI 35 62 14 rfl rfl zf_X8_205 rfl rfl rfl h11 (fun σ12 => ?_)
      refine z_iconst 36 63 rfl rfl ci_1 ?_
      exact z_zret 37 rfl rfl
  · refine z_aload0 7 14 rfl rfl ?_
    refine z_iconst 8 15 rfl rfl ci_5 ?_
    refine z_cV1I 9 18 rfl rfl zl_X8_62 F_X8_blame (zR_rm (by omega)) (c_X8_blame X d (by omega) a0 (5 : Int32) σ) ⟨by decide, rfl, rfl⟩ h0 rfl (Nat.le_of_ble_eq_true rfl) (fun r13 σ14 => ?_)
    exact z_zret 10 rfl rfl
def f_X8_readDone_69 (a0 : Nat) (x2 : Int32) (s0 : Int32) (σ : zS) : Option (Int32 × zS) := zlt s0 (fun v1 => zbr (v1 = (-1 : Int32)) (zbd (f_X8_blame a0 (1 : Int32) σ) (fun r2 σ3 => zck (zb r2) (some (r2, σ3)))) (zck (WC.2 (σ.2 a0 0) = (9, 0)) (zbd (f_X9_next (σ.2 a0 0) σ) (fun r5 σ6 => zck (WC.2 (σ6.2 a0 2) = (3, 0)) (zck (zok 100 (WC.2 (σ6.2 (σ6.2 a0 2) 5)) x2) (zlt (zpi σ6 (σ6.2 (σ6.2 a0 2) 5) x2.toNatClampNeg v1) (fun σ8 => zck (WC.2 (σ8.2 a0 2) = (3, 0)) (zlt (zpi σ8 (σ8.2 a0 2) 15 ((σ8.1 (σ8.2 a0 2) 15) + (1 : Int32))) (fun σ10 => zck (zb (1 : Int32)) (some ((1 : Int32), σ10)))))))))))
theorem t_X8_readDone_69 (X : zX) (d : Nat) (hd : 11 ≤ d + 1) (a0 : Nat) (h0 : WC.2 a0 = (8, 0)) (x2 : Int32) (s0 : Int32) (σ : zS) : zK X WC (zrm (d + 1)) M_X8_readDone (zZ X WC zeI) 69 [some (.ref a0), none, some (.int x2), none] [.int s0] σ (f_X8_readDone_69 a0 x2 s0 σ) := by
  unfold f_X8_readDone_69
  refine z_istore3 37 70 rfl rfl rfl (fun v1 => ?_)
  refine z_iload3 38 71 rfl rfl ?_
  refine z_iconst 39 72 rfl rfl ci_m1 ?_
  refine z_icmp_ne 40 75 81 rfl rfl (by decide) ?_ ?_
  · refine z_aload0 41 76 rfl rfl ?_
    refine z_iconst 42 77 rfl rfl ci_1 ?_
    refine z_cV1I 43 80 rfl rfl zl_X8_62 F_X8_blame (zR_rm (by omega)) (c_X8_blame X d (by omega) a0 (1 : Int32) σ) ⟨by decide, rfl, rfl⟩ h0 rfl (Nat.le_of_ble_eq_true rfl) (fun r2 σ3 => ?_)
    exact z_zret 44 rfl rfl
  · refine z_aload0 45 82 rfl rfl ?_
    refine z_getR 46 85 0 rfl rfl zf_X8_12 rfl h0 ?_
    refine z_ck (fun h4 => ?_)
    refine z_cV0V 47 88 rfl rfl zl_X8_56 F_X9_next (zR_rm (by omega)) (c_X9_next X d (by omega) (σ.2 a0 0) σ) ⟨by decide, rfl, rfl⟩ h4 rfl (Nat.le_of_ble_eq_true rfl) (fun r5 σ6 => ?_)
    refine z_aload0 48 89 rfl rfl ?_
    refine z_getR 49 92 2 rfl rfl zf_X8_28 rfl h0 ?_
    refine z_ck (fun h7 => ?_)
    refine z_getR 50 95 5 rfl rfl zf_X8_184 rfl h7 ?_
    refine z_iload2 51 96 rfl rfl ?_
    refine z_iload3 52 97 rfl rfl ?_
    refine z_iast 53 98 rfl rfl (fun σ8 => ?_)
    refine z_aload0 54 99 rfl rfl ?_
    refine z_getR 55 102 2 rfl rfl zf_X8_28 rfl h0 ?_
    refine z_dup 56 103 rfl rfl rfl ?_
    refine z_ck (fun h9 => ?_)
    refine z_getI 57 106 15 rfl rfl zf_X8_212 rfl h9 ?_
    refine z_iconst 58 107 rfl rfl ci_1 ?_
    refine z_iadd 59 108 rfl rfl ?_
    refine z_putI 60 111 15 rfl rfl zf_X8_212 rfl rfl rfl h9 (fun σ10 => ?_)
    refine z_iconst 61 112 rfl rfl ci_1 ?_
    exact z_zret 62 rfl rfl
def f_X8_readDone (a0 : Nat) (σ : zS) : Option (Int32 × zS) := zck (WC.2 a0 = (8, 0)) (zck (WC.2 (σ.2 a0 0) = (9, 0)) (zbd (f_X9_next (σ.2 a0 0) σ) (fun r12 σ13 => zck (WC.2 (σ13.2 a0 0) = (9, 0)) (zlt (σ13.1 (σ13.2 a0 0) 3) (fun v15 => zbd (f_X8_passName a0 (5 : Int32) σ13) (fun r16 σ17 => zlt r16 (fun v18 => zbr (v18 = (-1 : Int32)) (zck (zb (0 : Int32)) (some ((0 : Int32), σ17))) (zck (WC.2 (σ17.2 a0 2) = (3, 0)) (zck (zok 100 (WC.2 (σ17.2 (σ17.2 a0 2) 5)) v18) (zbr ((σ17.1 (σ17.2 (σ17.2 a0 2) 5) v18.toNatClampNeg) = (-1 : Int32)) (zck (WC.2 (σ17.2 a0 0) = (9, 0)) (zbd (f_X9_isWord (σ17.2 a0 0) (1000 + 16) σ17) (fun r21 σ22 => zbr (r21 = 0) (zbd (f_X8_sayAtHand a0 σ22) (fun r23 σ24 => f_X8_readDone_69 a0 v18 r23 σ24)) (f_X8_readDone_69 a0 v18 (-2 : Int32) σ22)))) (zbd (f_X8_blameAt a0 (3 : Int32) v15 σ17) (fun r25 σ26 => zck (zb r25) (some (r25, σ26))))))))))))))
theorem c_X8_readDone (X : zX) (d : Nat) (hd : 11 ≤ d) (a0 : Nat) (σ : zS) : ∀ (r : Int32) (σ' : zS), f_X8_readDone a0 σ = some (r, σ') → zCN X WC d M_X8_readDone [.ref a0] σ (zeI r, σ') := by
  obtain ⟨d, rfl⟩ : ∃ e, d = e + 1 := ⟨d - 1, by omega⟩
  refine z_entry [.ref a0] (by decide +kernel) T_X8_readDone (Nat.le_of_ble_eq_true rfl) ?_
  show zK X WC (zrm (d + 1)) M_X8_readDone (zZ X WC zeI) 0 [some (.ref a0), none, none, none] [] σ (f_X8_readDone a0 σ)
  unfold f_X8_readDone
  refine z_ck (fun h0 => ?_)
  refine z_aload0 0 1 rfl rfl ?_
  refine z_getR 1 4 0 rfl rfl zf_X8_12 rfl h0 ?_
  refine z_ck (fun h11 => ?_)
  refine z_cV0V 2 7 rfl rfl zl_X8_56 F_X9_next (zR_rm (by omega)) (c_X9_next X d (by omega) (σ.2 a0 0) σ) ⟨by decide, rfl, rfl⟩ h11 rfl (Nat.le_of_ble_eq_true rfl) (fun r12 σ13 => ?_)
  refine z_aload0 3 8 rfl rfl ?_
  refine z_getR 4 11 0 rfl rfl zf_X8_12 rfl h0 ?_
  refine z_ck (fun h14 => ?_)
  refine z_getI 5 14 3 rfl rfl zf_X8_69 rfl h14 ?_
  refine z_istore1 6 15 rfl rfl rfl (fun v15 => ?_)
  refine z_aload0 7 16 rfl rfl ?_
  refine z_iconst 8 17 rfl rfl ci_5 ?_
  refine z_cV1I 9 20 rfl rfl zl_X8_161 F_X8_passName (zR_rm (by omega)) (c_X8_passName X d (by omega) a0 (5 : Int32) σ13) ⟨by decide, rfl, rfl⟩ h0 rfl (Nat.le_of_ble_eq_true rfl) (fun r16 σ17 => ?_)
  refine z_istore2 10 21 rfl rfl rfl (fun v18 => ?_)
  refine z_iload2 11 22 rfl rfl ?_
  refine z_iconst 12 23 rfl rfl ci_m1 ?_
  refine z_icmp_ne 13 26 28 rfl rfl (by decide) ?_ ?_
  · refine z_iconst 14 27 rfl rfl ci_0 ?_
    exact z_zret 15 rfl rfl
  · refine z_aload0 16 29 rfl rfl ?_
    refine z_getR 17 32 2 rfl rfl zf_X8_28 rfl h0 ?_
    refine z_ck (fun h19 => ?_)
    refine z_getR 18 35 5 rfl rfl zf_X8_184 rfl h19 ?_
    refine z_iload2 19 36 rfl rfl ?_
    refine z_iald 20 37 rfl rfl ?_
    refine z_iconst 21 38 rfl rfl ci_m1 ?_
    refine z_icmp_eq 22 41 48 rfl rfl (by decide) ?_ ?_
    · refine z_aload0 28 49 rfl rfl ?_
      refine z_getR 29 52 0 rfl rfl zf_X8_12 rfl h0 ?_
      refine z_ldcS 30 54 16 rfl rfl (tx := "doubt") (List.mem_of_getElem? (i := 16) rfl) ?_
      refine z_ck (fun h20 => ?_)
      refine z_cV1I 31 57 rfl rfl zl_X8_78 F_X9_isWord (zR_rm (by omega)) (c_X9_isWord X d (by omega) (σ17.2 a0 0) (1000 + 16) σ17) ⟨by decide, rfl, rfl⟩ h20 rfl (Nat.le_of_ble_eq_true rfl) (fun r21 σ22 => ?_)
      refine z_if_eq 32 60 65 rfl rfl (by decide) ?_ ?_
      · refine z_aload0 35 66 rfl rfl ?_
        refine z_cV0I 36 69 rfl rfl zl_X8_194 F_X8_sayAtHand (zR_rm (by omega)) (c_X8_sayAtHand X d (by omega) a0 σ22) ⟨by decide, rfl, rfl⟩ h0 rfl (Nat.le_of_ble_eq_true rfl) (fun r23 σ24 => ?_)
        exact z_wk (zle_e (zle_n (zle_e (zle_e zle_0)))) (t_X8_readDone_69 X d hd a0 h0  v18 r23 σ24)
      · refine z_bipush 33 62 rfl rfl cb_m2 ?_
        refine z_goto 34 69 rfl (by decide) ?_
        exact z_wk (zle_e (zle_n (zle_e (zle_e zle_0)))) (t_X8_readDone_69 X d hd a0 h0  v18 (-2 : Int32) σ22)
    · refine z_aload0 23 42 rfl rfl ?_
      refine z_iconst 24 43 rfl rfl ci_3 ?_
      refine z_iload1 25 44 rfl rfl ?_
      refine z_cV2I 26 47 rfl rfl zl_X8_72 F_X8_blameAt (zR_rm (by omega)) (c_X8_blameAt X d a0 (3 : Int32) v15 σ17) ⟨by decide, rfl, rfl⟩ h0 rfl (Nat.le_of_ble_eq_true rfl) (fun r25 σ26 => ?_)
      exact z_zret 27 rfl rfl
def f_X8_readBid_48 (a0 : Nat) (x1 : Int32) (s0 : Int32) (σ : zS) : Option (Int32 × zS) := zlt s0 (fun v1 => zbr (v1 = (-1 : Int32)) (zck (zb (0 : Int32)) (some ((0 : Int32), σ))) (zbd (f_X8_passWord a0 (1000 + 15) σ) (fun r2 σ3 => zbr (r2 = 0) (zck (zb (0 : Int32)) (some ((0 : Int32), σ3))) (zbd (f_X8_isWhole a0 (1 : Int32) (9 : Int32) σ3) (fun r4 σ5 => zbr (r4 = 0) (zck (zb (0 : Int32)) (some ((0 : Int32), σ5))) (zbd (f_X8_passNumber a0 σ5) (fun r6 σ7 => zlt r6 (fun v8 => zbd (f_X8_passWord a0 (1000 + 17) σ7) (fun r9 σ10 => zbr (r9 = 0) (zck (zb (0 : Int32)) (some ((0 : Int32), σ10))) (zbd (f_X8_isWhole a0 (0 : Int32) (99 : Int32) σ10) (fun r11 σ12 => zbr (r11 = 0) (zck (zb (0 : Int32)) (some ((0 : Int32), σ12))) (zck (WC.2 (σ12.2 a0 2) = (3, 0)) (zbd (f_X8_passNumber a0 σ12) (fun r14 σ15 => zck (WC.2 (σ12.2 (σ12.2 a0 2) 8) = (0, 0)) (zbd (f_X0_add (σ12.2 (σ12.2 a0 2) 8) x1 v1 v8 r14 σ15) (fun r17 σ18 => zck (zb (1 : Int32)) (some ((1 : Int32), σ18))))))))))))))))))
theorem t_X8_readBid_48 (X : zX) (d : Nat) (hd : 11 ≤ d + 1) (a0 : Nat) (h0 : WC.2 a0 = (8, 0)) (x1 : Int32) (s0 : Int32) (σ : zS) : zK X WC (zrm (d + 1)) M_X8_readBid (zZ X WC zeI) 48 [some (.ref a0), some (.int x1), none, none] [.int s0] σ (f_X8_readBid_48 a0 x1 s0 σ) := by
  unfold f_X8_readBid_48
  refine z_istore2 25 49 rfl rfl rfl (fun v1 => ?_)
  refine z_iload2 26 50 rfl rfl ?_
  refine z_iconst 27 51 rfl rfl ci_m1 ?_
  refine z_icmp_eq 28 54 73 rfl rfl (by decide) ?_ ?_
  · refine z_iconst 38 74 rfl rfl ci_0 ?_
    exact z_zret 39 rfl rfl
  · refine z_aload0 29 55 rfl rfl ?_
    refine z_ldcS 30 57 15 rfl rfl (tx := "inches") (List.mem_of_getElem? (i := 15) rfl) ?_
    refine z_cV1I 31 60 rfl rfl zl_X8_104 F_X8_passWord (zR_rm (by omega)) (c_X8_passWord X d (by omega) a0 (1000 + 15) σ) ⟨by decide, rfl, rfl⟩ h0 rfl (Nat.le_of_ble_eq_true rfl) (fun r2 σ3 => ?_)
    refine z_if_eq 32 63 73 rfl rfl (by decide) ?_ ?_
    · refine z_iconst 38 74 rfl rfl ci_0 ?_
      exact z_zret 39 rfl rfl
    · refine z_aload0 33 64 rfl rfl ?_
      refine z_iconst 34 65 rfl rfl ci_1 ?_
      refine z_bipush 35 67 rfl rfl cb_9 ?_
      refine z_cV2I 36 70 rfl rfl zl_X8_107 F_X8_isWhole (zR_rm (by omega)) (c_X8_isWhole X d (by omega) a0 (1 : Int32) (9 : Int32) σ3) ⟨by decide, rfl, rfl⟩ h0 rfl (Nat.le_of_ble_eq_true rfl) (fun r4 σ5 => ?_)
      refine z_if_ne 37 73 75 rfl rfl (by decide) ?_ ?_
      · refine z_iconst 38 74 rfl rfl ci_0 ?_
        exact z_zret 39 rfl rfl
      · refine z_aload0 40 76 rfl rfl ?_
        refine z_cV0I 41 79 rfl rfl zl_X8_110 F_X8_passNumber (zR_rm (by omega)) (c_X8_passNumber X d (by omega) a0 σ5) ⟨by decide, rfl, rfl⟩ h0 rfl (Nat.le_of_ble_eq_true rfl) (fun r6 σ7 => ?_)
        refine z_istore3 42 80 rfl rfl rfl (fun v8 => ?_)
        refine z_aload0 43 81 rfl rfl ?_
        refine z_ldcS 44 83 17 rfl rfl (tx := "pays") (List.mem_of_getElem? (i := 17) rfl) ?_
        refine z_cV1I 45 86 rfl rfl zl_X8_104 F_X8_passWord (zR_rm (by omega)) (c_X8_passWord X d (by omega) a0 (1000 + 17) σ7) ⟨by decide, rfl, rfl⟩ h0 rfl (Nat.le_of_ble_eq_true rfl) (fun r9 σ10 => ?_)
        refine z_if_eq 46 89 99 rfl rfl (by decide) ?_ ?_
        · refine z_iconst 52 100 rfl rfl ci_0 ?_
          exact z_zret 53 rfl rfl
        · refine z_aload0 47 90 rfl rfl ?_
          refine z_iconst 48 91 rfl rfl ci_0 ?_
          refine z_bipush 49 93 rfl rfl cb_99 ?_
          refine z_cV2I 50 96 rfl rfl zl_X8_107 F_X8_isWhole (zR_rm (by omega)) (c_X8_isWhole X d (by omega) a0 (0 : Int32) (99 : Int32) σ10) ⟨by decide, rfl, rfl⟩ h0 rfl (Nat.le_of_ble_eq_true rfl) (fun r11 σ12 => ?_)
          refine z_if_ne 51 99 101 rfl rfl (by decide) ?_ ?_
          · refine z_iconst 52 100 rfl rfl ci_0 ?_
            exact z_zret 53 rfl rfl
          · refine z_aload0 54 102 rfl rfl ?_
            refine z_getR 55 105 2 rfl rfl zf_X8_28 rfl h0 ?_
            refine z_ck (fun h13 => ?_)
            refine z_getR 56 108 8 rfl rfl zf_X8_215 rfl h13 ?_
            refine z_iload1 57 109 rfl rfl ?_
            refine z_iload2 58 110 rfl rfl ?_
            refine z_iload3 59 111 rfl rfl ?_
            refine z_aload0 60 112 rfl rfl ?_
            refine z_cV0I 61 115 rfl rfl zl_X8_110 F_X8_passNumber (zR_rm (by omega)) (c_X8_passNumber X d (by omega) a0 σ12) ⟨by decide, rfl, rfl⟩ h0 rfl (Nat.le_of_ble_eq_true rfl) (fun r14 σ15 => ?_)
            refine z_ck (fun h16 => ?_)
            refine z_cV4V 62 118 rfl rfl zl_X8_224 F_X0_add (zR_rm (by omega)) (c_X0_add X d (σ12.2 (σ12.2 a0 2) 8) x1 v1 v8 r14 σ15) ⟨by decide, rfl, rfl⟩ h16 rfl (Nat.le_of_ble_eq_true rfl) (fun r17 σ18 => ?_)
            refine z_iconst 63 119 rfl rfl ci_1 ?_
            exact z_zret 64 rfl rfl
def f_X8_readBid (a0 : Nat) (σ : zS) : Option (Int32 × zS) := zck (WC.2 a0 = (8, 0)) (zck (WC.2 (σ.2 a0 2) = (3, 0)) (zck (WC.2 (σ.2 (σ.2 a0 2) 8) = (0, 0)) (zbr ((σ.1 (σ.2 (σ.2 a0 2) 8) 4) < (6 : Int32)) (zck (WC.2 (σ.2 a0 0) = (9, 0)) (zbd (f_X9_next (σ.2 a0 0) σ) (fun r22 σ23 => zbd (f_X8_passName a0 (4 : Int32) σ23) (fun r24 σ25 => zlt r24 (fun v26 => zbr (v26 = (-1 : Int32)) (f_X8_readBid_48 a0 v26 (-1 : Int32) σ25) (zbd (f_X8_passName a0 (2 : Int32) σ25) (fun r27 σ28 => f_X8_readBid_48 a0 v26 r27 σ28))))))) (zbd (f_X8_blame a0 (5 : Int32) σ) (fun r29 σ30 => zck (zb r29) (some (r29, σ30)))))))
theorem c_X8_readBid (X : zX) (d : Nat) (hd : 11 ≤ d) (a0 : Nat) (σ : zS) : ∀ (r : Int32) (σ' : zS), f_X8_readBid a0 σ = some (r, σ') → zCN X WC d M_X8_readBid [.ref a0] σ (zeI r, σ') := by
  obtain ⟨d, rfl⟩ : ∃ e, d = e + 1 := ⟨d - 1, by omega⟩
  refine z_entry [.ref a0] (by decide +kernel) T_X8_readBid (Nat.le_of_ble_eq_true rfl) ?_
  show zK X WC (zrm (d + 1)) M_X8_readBid (zZ X WC zeI) 0 [some (.ref a0), none, none, none] [] σ (f_X8_readBid a0 σ)
  unfold f_X8_readBid
  refine z_ck (fun h0 => ?_)
  refine z_aload0 0 1 rfl rfl ?_
  refine z_getR 1 4 2 rfl rfl zf_X8_28 rfl h0 ?_
  refine z_ck (fun h19 => ?_)
  refine z_getR 2 7 8 rfl rfl zf_X8_215 rfl h19 ?_
  refine z_ck (fun h20 => ?_)
  refine z_getI 3 10 4 rfl rfl zf_X8_219 rfl h20 ?_
  refine z_bipush 4 12 rfl rfl cb_6 ?_
  refine z_icmp_lt 5 15 21 rfl rfl (by decide) ?_ ?_
  · refine z_aload0 10 22 rfl rfl ?_
    refine z_getR 11 25 0 rfl rfl zf_X8_12 rfl h0 ?_
    refine z_ck (fun h21 => ?_)
    refine z_cV0V 12 28 rfl rfl zl_X8_56 F_X9_next (zR_rm (by omega)) (c_X9_next X d (by omega) (σ.2 a0 0) σ) ⟨by decide, rfl, rfl⟩ h21 rfl (Nat.le_of_ble_eq_true rfl) (fun r22 σ23 => ?_)
    refine z_aload0 13 29 rfl rfl ?_
    refine z_iconst 14 30 rfl rfl ci_4 ?_
    refine z_cV1I 15 33 rfl rfl zl_X8_161 F_X8_passName (zR_rm (by omega)) (c_X8_passName X d (by omega) a0 (4 : Int32) σ23) ⟨by decide, rfl, rfl⟩ h0 rfl (Nat.le_of_ble_eq_true rfl) (fun r24 σ25 => ?_)
    refine z_istore1 16 34 rfl rfl rfl (fun v26 => ?_)
    refine z_iload1 17 35 rfl rfl ?_
    refine z_iconst 18 36 rfl rfl ci_m1 ?_
    refine z_icmp_ne 19 39 43 rfl rfl (by decide) ?_ ?_
    · refine z_iconst 20 40 rfl rfl ci_m1 ?_
      refine z_goto 21 48 rfl (by decide) ?_
      exact t_X8_readBid_48 X d hd a0 h0  v26 (-1 : Int32) σ25
    · refine z_aload0 22 44 rfl rfl ?_
      refine z_iconst 23 45 rfl rfl ci_2 ?_
      refine z_cV1I 24 48 rfl rfl zl_X8_161 F_X8_passName (zR_rm (by omega)) (c_X8_passName X d (by omega) a0 (2 : Int32) σ25) ⟨by decide, rfl, rfl⟩ h0 rfl (Nat.le_of_ble_eq_true rfl) (fun r27 σ28 => ?_)
      exact t_X8_readBid_48 X d hd a0 h0  v26 r27 σ28
  · refine z_aload0 6 16 rfl rfl ?_
    refine z_iconst 7 17 rfl rfl ci_5 ?_
    refine z_cV1I 8 20 rfl rfl zl_X8_62 F_X8_blame (zR_rm (by omega)) (c_X8_blame X d (by omega) a0 (5 : Int32) σ) ⟨by decide, rfl, rfl⟩ h0 rfl (Nat.le_of_ble_eq_true rfl) (fun r29 σ30 => ?_)
    exact z_zret 9 rfl rfl
def f_X8_readLine (a0 : Nat) (σ : zS) : Option (Int32 × zS) := zck (WC.2 a0 = (8, 0)) (zbd (f_X8_lineWord a0 σ) (fun r1 σ2 => zbr (r1 = (1 : Int32)) (zbd (f_X8_blame a0 (3 : Int32) σ2) (fun r4 σ5 => zck (zb r4) (some (r4, σ5)))) (zbr (r1 = (2 : Int32)) (zbd (f_X8_readPlace a0 σ2) (fun r7 σ8 => zck (zb r7) (some (r7, σ8)))) (zbr (r1 = (3 : Int32)) (zbd (f_X8_readOver a0 σ2) (fun r10 σ11 => zck (zb r10) (some (r10, σ11)))) (zbr (r1 = (4 : Int32)) (zbd (f_X8_readHand a0 σ2) (fun r13 σ14 => zck (zb r13) (some (r13, σ14)))) (zbr (r1 = (5 : Int32)) (zbd (f_X8_readMatter a0 σ2) (fun r16 σ17 => zck (zb r16) (some (r16, σ17)))) (zbr (r1 = (6 : Int32)) (zbd (f_X8_readWrote a0 σ2) (fun r19 σ20 => zck (zb r19) (some (r19, σ20)))) (zbr (r1 = (7 : Int32)) (zbd (f_X8_readHidden a0 σ2) (fun r22 σ23 => zck (zb r22) (some (r22, σ23)))) (zbr (r1 = (8 : Int32)) (zbd (f_X8_readDone a0 σ2) (fun r25 σ26 => zck (zb r25) (some (r25, σ26)))) (zbr (r1 = (9 : Int32)) (zbd (f_X8_readBid a0 σ2) (fun r28 σ29 => zck (zb r28) (some (r28, σ29)))) (zbd (f_X8_blame a0 (1 : Int32) σ2) (fun r30 σ31 => zck (zb r30) (some (r30, σ31))))))))))))))
theorem c_X8_readLine (X : zX) (d : Nat) (hd : 12 ≤ d) (a0 : Nat) (σ : zS) : ∀ (r : Int32) (σ' : zS), f_X8_readLine a0 σ = some (r, σ') → zCN X WC d M_X8_readLine [.ref a0] σ (zeI r, σ') := by
  obtain ⟨d, rfl⟩ : ∃ e, d = e + 1 := ⟨d - 1, by omega⟩
  refine z_entry [.ref a0] (by decide +kernel) T_X8_readLine (Nat.le_of_ble_eq_true rfl) ?_
  show zK X WC (zrm (d + 1)) M_X8_readLine (zZ X WC zeI) 0 [some (.ref a0)] [] σ (f_X8_readLine a0 σ)
  unfold f_X8_readLine
  refine z_ck (fun h0 => ?_)
  refine z_aload0 0 1 rfl rfl ?_
  refine z_cV0I 1 4 rfl rfl zl_X8_98 F_X8_lineWord (zR_rm (by omega)) (c_X8_lineWord X d (by omega) a0 σ) ⟨by decide, rfl, rfl⟩ h0 rfl (Nat.le_of_ble_eq_true rfl) (fun r1 σ2 => ?_)
  refine z_br (fun e3 => ?_) (fun e3 => ?_)
  · refine z_tabIn 2 56 rfl e3 ct_1 (by decide) (by decide) rfl (by decide) ?_
    refine z_aload0 3 57 rfl rfl ?_
    refine z_iconst 4 58 rfl rfl ci_3 ?_
    refine z_cV1I 5 61 rfl rfl zl_X8_62 F_X8_blame (zR_rm (by omega)) (c_X8_blame X d (by omega) a0 (3 : Int32) σ2) ⟨by decide, rfl, rfl⟩ h0 rfl (Nat.le_of_ble_eq_true rfl) (fun r4 σ5 => ?_)
    exact z_zret 6 rfl rfl
  refine z_br (fun e6 => ?_) (fun e6 => ?_)
  · refine z_tabIn 2 62 rfl e6 ct_2 (by decide) (by decide) rfl (by decide) ?_
    refine z_aload0 7 63 rfl rfl ?_
    refine z_cV0I 8 66 rfl rfl zl_X8_115 F_X8_readPlace (zR_rm (by omega)) (c_X8_readPlace X d (by omega) a0 σ2) ⟨by decide, rfl, rfl⟩ h0 rfl (Nat.le_of_ble_eq_true rfl) (fun r7 σ8 => ?_)
    exact z_zret 9 rfl rfl
  refine z_br (fun e9 => ?_) (fun e9 => ?_)
  · refine z_tabIn 2 67 rfl e9 ct_3 (by decide) (by decide) rfl (by decide) ?_
    refine z_aload0 10 68 rfl rfl ?_
    refine z_cV0I 11 71 rfl rfl zl_X8_118 F_X8_readOver (zR_rm (by omega)) (c_X8_readOver X d (by omega) a0 σ2) ⟨by decide, rfl, rfl⟩ h0 rfl (Nat.le_of_ble_eq_true rfl) (fun r10 σ11 => ?_)
    exact z_zret 12 rfl rfl
  refine z_br (fun e12 => ?_) (fun e12 => ?_)
  · refine z_tabIn 2 72 rfl e12 ct_4 (by decide) (by decide) rfl (by decide) ?_
    refine z_aload0 13 73 rfl rfl ?_
    refine z_cV0I 14 76 rfl rfl zl_X8_121 F_X8_readHand (zR_rm (by omega)) (c_X8_readHand X d (by omega) a0 σ2) ⟨by decide, rfl, rfl⟩ h0 rfl (Nat.le_of_ble_eq_true rfl) (fun r13 σ14 => ?_)
    exact z_zret 15 rfl rfl
  refine z_br (fun e15 => ?_) (fun e15 => ?_)
  · refine z_tabIn 2 77 rfl e15 ct_5 (by decide) (by decide) rfl (by decide) ?_
    refine z_aload0 16 78 rfl rfl ?_
    refine z_cV0I 17 81 rfl rfl zl_X8_124 F_X8_readMatter (zR_rm (by omega)) (c_X8_readMatter X d (by omega) a0 σ2) ⟨by decide, rfl, rfl⟩ h0 rfl (Nat.le_of_ble_eq_true rfl) (fun r16 σ17 => ?_)
    exact z_zret 18 rfl rfl
  refine z_br (fun e18 => ?_) (fun e18 => ?_)
  · refine z_tabIn 2 82 rfl e18 ct_6 (by decide) (by decide) rfl (by decide) ?_
    refine z_aload0 19 83 rfl rfl ?_
    refine z_cV0I 20 86 rfl rfl zl_X8_127 F_X8_readWrote (zR_rm (by omega)) (c_X8_readWrote X d (by omega) a0 σ2) ⟨by decide, rfl, rfl⟩ h0 rfl (Nat.le_of_ble_eq_true rfl) (fun r19 σ20 => ?_)
    exact z_zret 21 rfl rfl
  refine z_br (fun e21 => ?_) (fun e21 => ?_)
  · refine z_tabIn 2 87 rfl e21 ct_7 (by decide) (by decide) rfl (by decide) ?_
    refine z_aload0 22 88 rfl rfl ?_
    refine z_cV0I 23 91 rfl rfl zl_X8_130 F_X8_readHidden (zR_rm (by omega)) (c_X8_readHidden X d (by omega) a0 σ2) ⟨by decide, rfl, rfl⟩ h0 rfl (Nat.le_of_ble_eq_true rfl) (fun r22 σ23 => ?_)
    exact z_zret 24 rfl rfl
  refine z_br (fun e24 => ?_) (fun e24 => ?_)
  · refine z_tabIn 2 92 rfl e24 ct_8 (by decide) (by decide) rfl (by decide) ?_
    refine z_aload0 25 93 rfl rfl ?_
    refine z_cV0I 26 96 rfl rfl zl_X8_133 F_X8_readDone (zR_rm (by omega)) (c_X8_readDone X d (by omega) a0 σ2) ⟨by decide, rfl, rfl⟩ h0 rfl (Nat.le_of_ble_eq_true rfl) (fun r25 σ26 => ?_)
    exact z_zret 27 rfl rfl
  refine z_br (fun e27 => ?_) (fun e27 => ?_)
  · refine z_tabIn 2 97 rfl e27 ct_9 (by decide) (by decide) rfl (by decide) ?_
    refine z_aload0 28 98 rfl rfl ?_
    refine z_cV0I 29 101 rfl rfl zl_X8_136 F_X8_readBid (zR_rm (by omega)) (c_X8_readBid X d (by omega) a0 σ2) ⟨by decide, rfl, rfl⟩ h0 rfl (Nat.le_of_ble_eq_true rfl) (fun r28 σ29 => ?_)
    exact z_zret 30 rfl rfl
  refine z_tabOut 2 102 rfl (z_out1 9 (fun j hj => by rcases (show j = 0 ∨ j = 1 ∨ j = 2 ∨ j = 3 ∨ j = 4 ∨ j = 5 ∨ j = 6 ∨ j = 7 ∨ j = 8 by omega) with rfl | rfl | rfl | rfl | rfl | rfl | rfl | rfl | rfl <;> assumption) (by decide) 9 (by decide)) (by decide) ?_
  refine z_aload0 31 103 rfl rfl ?_
  refine z_iconst 32 104 rfl rfl ci_1 ?_
  refine z_cV1I 33 107 rfl rfl zl_X8_62 F_X8_blame (zR_rm (by omega)) (c_X8_blame X d (by omega) a0 (1 : Int32) σ2) ⟨by decide, rfl, rfl⟩ h0 rfl (Nat.le_of_ble_eq_true rfl) (fun r30 σ31 => ?_)
  exact z_zret 34 rfl rfl
def f_X8_readFirst_103 (a0 : Nat) (x2 : Int32) (σ : zS) : Option (Unit × zS) := zbr (x2 = 0) (some ((), σ)) (zck (WC.2 (σ.2 a0 2) = (3, 0)) (zbr ((σ.1 (σ.2 a0 2) 10) = 0) (zbd (f_X8_blame a0 (6 : Int32) σ) (fun r2 σ3 => some ((), σ3))) (some ((), σ))))
theorem t_X8_readFirst_103 (X : zX) (d : Nat) (hd : 13 ≤ d + 1) (a0 : Nat) (h0 : WC.2 a0 = (8, 0)) (x2 : Int32) (σ : zS) : zK X WC (zrm (d + 1)) M_X8_readFirst (zZ X WC zeV) 103 [some (.ref a0), none, some (.int x2), none] [] σ (f_X8_readFirst_103 a0 x2 σ) := by
  unfold f_X8_readFirst_103
  refine z_iload2 51 104 rfl rfl ?_
  refine z_if_eq 52 107 124 rfl rfl (by decide) ?_ ?_
  · exact z_vret 61 rfl rfl
  · refine z_aload0 53 108 rfl rfl ?_
    refine z_getR 54 111 2 rfl rfl zf_X8_28 rfl h0 ?_
    refine z_ck (fun h1 => ?_)
    refine z_getI 55 114 10 rfl rfl zf_X8_66 rfl h1 ?_
    refine z_if_ne 56 117 124 rfl rfl (by decide) ?_ ?_
    · refine z_aload0 57 118 rfl rfl ?_
      refine z_bipush 58 120 rfl rfl cb_6 ?_
      refine z_cV1I 59 123 rfl rfl zl_X8_62 F_X8_blame (zR_rm (by omega)) (c_X8_blame X d (by omega) a0 (6 : Int32) σ) ⟨by decide, rfl, rfl⟩ h0 rfl (Nat.le_of_ble_eq_true rfl) (fun r2 σ3 => ?_)
      refine z_pop 60 124 rfl rfl rfl ?_
      exact z_vret 61 rfl rfl
    · exact z_vret 61 rfl rfl
def f_X8_readFirst_80 (a0 : Nat) (x2 : Int32) (σ : zS) : Option (Unit × zS) := zbr (x2 = 0) (f_X8_readFirst_103 a0 x2 σ) (zck (WC.2 (σ.2 a0 0) = (9, 0)) (zbr ((σ.1 (σ.2 a0 0) 5) = 0) (f_X8_readFirst_103 a0 x2 σ) (zbd (f_X8_blame a0 (1 : Int32) σ) (fun r5 σ6 => some ((), σ6)))))
theorem t_X8_readFirst_80 (X : zX) (d : Nat) (hd : 13 ≤ d + 1) (a0 : Nat) (h0 : WC.2 a0 = (8, 0)) (x2 : Int32) (σ : zS) : zK X WC (zrm (d + 1)) M_X8_readFirst (zZ X WC zeV) 80 [some (.ref a0), none, some (.int x2), none] [] σ (f_X8_readFirst_80 a0 x2 σ) := by
  unfold f_X8_readFirst_80
  refine z_iload2 40 81 rfl rfl ?_
  refine z_if_eq 41 84 103 rfl rfl (by decide) ?_ ?_
  · exact t_X8_readFirst_103 X d hd a0 h0  x2 σ
  · refine z_aload0 42 85 rfl rfl ?_
    refine z_getR 43 88 0 rfl rfl zf_X8_12 rfl h0 ?_
    refine z_ck (fun h4 => ?_)
    refine z_getI 44 91 5 rfl rfl zf_X8_53 rfl h4 ?_
    refine z_if_eq 45 94 103 rfl rfl (by decide) ?_ ?_
    · exact t_X8_readFirst_103 X d hd a0 h0  x2 σ
    · refine z_aload0 46 95 rfl rfl ?_
      refine z_iconst 47 96 rfl rfl ci_1 ?_
      refine z_cV1I 48 99 rfl rfl zl_X8_62 F_X8_blame (zR_rm (by omega)) (c_X8_blame X d (by omega) a0 (1 : Int32) σ) ⟨by decide, rfl, rfl⟩ h0 rfl (Nat.le_of_ble_eq_true rfl) (fun r5 σ6 => ?_)
      refine z_pop 49 100 rfl rfl rfl ?_
      refine z_goto 50 124 rfl (by decide) ?_
      exact z_vret 61 rfl rfl
def f_X8_readFirst_40 (a0 : Nat) : Nat → Int32 → Int32 → zS → Option (Unit × zS)
  | 0, _, _, _ => none
  | n + 1, x2, x3, σ => zbr ((900 : Int32) ≤ x3) (f_X8_readFirst_80 a0 x2 σ) (zbr (x2 = 0) (f_X8_readFirst_80 a0 x2 σ) (zck (WC.2 (σ.2 a0 0) = (9, 0)) (zbr ((σ.1 (σ.2 a0 0) 5) = (3 : Int32)) (zbd (f_X9_next (σ.2 a0 0) σ) (fun r8 σ9 => zbd (f_X8_readLine a0 σ9) (fun r10 σ11 => zlt r10 (fun v12 => zlt (x3 + (1 : Int32)) (fun v13 => f_X8_readFirst_40 a0 n v12 v13 σ11))))) (f_X8_readFirst_80 a0 x2 σ))))
theorem t_X8_readFirst_40 (X : zX) (d : Nat) (hd : 13 ≤ d + 1) (a0 : Nat) (h0 : WC.2 a0 = (8, 0)) : ∀ (n : Nat) (x2 : Int32) (x3 : Int32) (σ : zS), zK X WC (zrm (d + 1)) M_X8_readFirst (zZ X WC zeV) 40 [some (.ref a0), none, some (.int x2), some (.int x3)] [] σ (f_X8_readFirst_40 a0 n x2 x3 σ) := by
  intro n
  induction n with
  | zero => intro x2 x3 σ; exact z_none
  | succ n ih =>
    intro x2 x3 σ
    rw [f_X8_readFirst_40]
    refine z_iload3 22 41 rfl rfl ?_
    refine z_sipush 23 44 rfl rfl cs_900 ?_
    refine z_icmp_ge 24 47 80 rfl rfl (by decide) ?_ ?_
    · exact z_wk (zle_e (zle_e (zle_e (zle_n zle_0)))) (t_X8_readFirst_80 X d hd a0 h0  x2 σ)
    · refine z_iload2 25 48 rfl rfl ?_
      refine z_if_eq 26 51 80 rfl rfl (by decide) ?_ ?_
      · exact z_wk (zle_e (zle_e (zle_e (zle_n zle_0)))) (t_X8_readFirst_80 X d hd a0 h0  x2 σ)
      · refine z_aload0 27 52 rfl rfl ?_
        refine z_getR 28 55 0 rfl rfl zf_X8_12 rfl h0 ?_
        refine z_ck (fun h7 => ?_)
        refine z_getI 29 58 5 rfl rfl zf_X8_53 rfl h7 ?_
        refine z_iconst 30 59 rfl rfl ci_3 ?_
        refine z_icmp_ne 31 62 80 rfl rfl (by decide) ?_ ?_
        · refine z_aload0 32 63 rfl rfl ?_
          refine z_getR 33 66 0 rfl rfl zf_X8_12 rfl h0 ?_
          refine z_cV0V 34 69 rfl rfl zl_X8_56 F_X9_next (zR_rm (by omega)) (c_X9_next X d (by omega) (σ.2 a0 0) σ) ⟨by decide, rfl, rfl⟩ h7 rfl (Nat.le_of_ble_eq_true rfl) (fun r8 σ9 => ?_)
          refine z_aload0 35 70 rfl rfl ?_
          refine z_cV0I 36 73 rfl rfl zl_X8_59 F_X8_readLine (zR_rm (by omega)) (c_X8_readLine X d (by omega) a0 σ9) ⟨by decide, rfl, rfl⟩ h0 rfl (Nat.le_of_ble_eq_true rfl) (fun r10 σ11 => ?_)
          refine z_istore2 37 74 rfl rfl rfl (fun v12 => ?_)
          refine z_iinc3 38 77 rfl rfl ci_1 rfl (fun v13 => ?_)
          refine z_goto 39 40 rfl (by decide) ?_
          exact ih v12 v13 σ11
        · exact z_wk (zle_e (zle_e (zle_e (zle_n zle_0)))) (t_X8_readFirst_80 X d hd a0 h0  x2 σ)
def f_X8_readFirst (a0 : Nat) (x1 : Int32) (σ : zS) : Option (Unit × zS) := zck (WC.2 a0 = (8, 0)) (zck (WC.2 (σ.2 a0 2) = (3, 0)) (zbd (f_X3_empty (σ.2 a0 2) σ) (fun r15 σ16 => zck (WC.2 (σ16.2 a0 1) = (4, 0)) (zlt (zpi σ16 (σ16.2 a0 1) 4 (0 : Int32)) (fun σ18 => zlt (zpi σ18 a0 3 (0 : Int32)) (fun σ19 => zlt (zpi σ19 a0 4 (-1 : Int32)) (fun σ20 => zck (WC.2 (σ20.2 a0 0) = (9, 0)) (zbd (f_X9_start (σ20.2 a0 0) x1 σ20) (fun r22 σ23 => zbd (f_X8_readHead a0 σ23) (fun r24 σ25 => zlt r24 (fun v26 => zlt (0 : Int32) (fun v27 => f_X8_readFirst_40 a0 FU v26 v27 σ25))))))))))))
theorem c_X8_readFirst (X : zX) (d : Nat) (hd : 13 ≤ d) (a0 : Nat) (x1 : Int32) (σ : zS) : ∀ (r : Unit) (σ' : zS), f_X8_readFirst a0 x1 σ = some (r, σ') → zCN X WC d M_X8_readFirst [.ref a0, .int x1] σ (zeV r, σ') := by
  obtain ⟨d, rfl⟩ : ∃ e, d = e + 1 := ⟨d - 1, by omega⟩
  refine z_entry [.ref a0, .int x1] (by decide +kernel) T_X8_readFirst (Nat.le_of_ble_eq_true rfl) ?_
  show zK X WC (zrm (d + 1)) M_X8_readFirst (zZ X WC zeV) 0 [some (.ref a0), some (.int x1), none, none] [] σ (f_X8_readFirst a0 x1 σ)
  unfold f_X8_readFirst
  refine z_ck (fun h0 => ?_)
  refine z_aload0 0 1 rfl rfl ?_
  refine z_getR 1 4 2 rfl rfl zf_X8_28 rfl h0 ?_
  refine z_ck (fun h14 => ?_)
  refine z_cV0V 2 7 rfl rfl zl_X8_32 F_X3_empty (zR_rm (by omega)) (c_X3_empty X d (by omega) (σ.2 a0 2) σ) ⟨by decide, rfl, rfl⟩ h14 rfl (Nat.le_of_ble_eq_true rfl) (fun r15 σ16 => ?_)
  refine z_aload0 3 8 rfl rfl ?_
  refine z_getR 4 11 1 rfl rfl zf_X8_21 rfl h0 ?_
  refine z_iconst 5 12 rfl rfl ci_0 ?_
  refine z_ck (fun h17 => ?_)
  refine z_putI 6 15 4 rfl rfl zf_X8_35 rfl rfl rfl h17 (fun σ18 => ?_)
  refine z_aload0 7 16 rfl rfl ?_
  refine z_iconst 8 17 rfl rfl ci_0 ?_
  refine z_putI 9 20 3 rfl rfl zf_X8_39 rfl rfl rfl h0 (fun σ19 => ?_)
  refine z_aload0 10 21 rfl rfl ?_
  refine z_iconst 11 22 rfl rfl ci_m1 ?_
  refine z_putI 12 25 4 rfl rfl zf_X8_42 rfl rfl rfl h0 (fun σ20 => ?_)
  refine z_aload0 13 26 rfl rfl ?_
  refine z_getR 14 29 0 rfl rfl zf_X8_12 rfl h0 ?_
  refine z_iload1 15 30 rfl rfl ?_
  refine z_ck (fun h21 => ?_)
  refine z_cV1V 16 33 rfl rfl zl_X8_45 F_X9_start (zR_rm (by omega)) (c_X9_start X d (by omega) (σ20.2 a0 0) x1 σ20) ⟨by decide, rfl, rfl⟩ h21 rfl (Nat.le_of_ble_eq_true rfl) (fun r22 σ23 => ?_)
  refine z_aload0 17 34 rfl rfl ?_
  refine z_cV0I 18 37 rfl rfl zl_X8_49 F_X8_readHead (zR_rm (by omega)) (c_X8_readHead X d (by omega) a0 σ23) ⟨by decide, rfl, rfl⟩ h0 rfl (Nat.le_of_ble_eq_true rfl) (fun r24 σ25 => ?_)
  refine z_istore2 19 38 rfl rfl rfl (fun v26 => ?_)
  refine z_iconst 20 39 rfl rfl ci_0 ?_
  refine z_istore3 21 40 rfl rfl rfl (fun v27 => ?_)
  exact z_wk (zle_e (zle_n (zle_e (zle_e zle_0)))) (t_X8_readFirst_40 X d hd a0 h0  FU v26 v27 σ25)
