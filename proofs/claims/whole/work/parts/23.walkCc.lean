def f_X10_feed (a0 : Nat) (x1 : Int32) (x2 : Int32) (x3 : Int32) (x4 : Int32) (x5 : Int32) (σ : zS) : Option (Int32 × zS) := zck (WC.2 a0 = (10, 0)) (zck (WC.2 (σ.2 a0 0) = (8, 0)) (zlt (σ.2 (σ.2 a0 0) 0) (fun v2 => zck (WC.2 v2 = (9, 0)) (zbr (((σ.1 v2 1) + (20 : Int32)) ≤ (900 : Int32)) (zbd (f_X9_append v2 x1 σ) (fun r4 σ5 => zbd (f_X9_append v2 x2 σ5) (fun r6 σ7 => zbd (f_X9_append v2 x3 σ7) (fun r8 σ9 => zbd (f_X9_append v2 x4 σ9) (fun r10 σ11 => zbd (f_X9_append v2 x5 σ11) (fun r12 σ13 => some ((σ13.1 v2 1), σ13))))))) (some ((-1 : Int32), σ))))))
theorem c_X10_feed (X : zX) (d : Nat) (hd : 1 ≤ d) (a0 : Nat) (x1 : Int32) (x2 : Int32) (x3 : Int32) (x4 : Int32) (x5 : Int32) (σ : zS) : ∀ (r : Int32) (σ' : zS), f_X10_feed a0 x1 x2 x3 x4 x5 σ = some (r, σ') → zCN X WC d M_X10_feed [.ref a0, .int x1, .int x2, .int x3, .int x4, .int x5] σ (zeI r, σ') := by
  obtain ⟨d, rfl⟩ : ∃ e, d = e + 1 := ⟨d - 1, by omega⟩
  refine z_entry [.ref a0, .int x1, .int x2, .int x3, .int x4, .int x5] (by decide +kernel) T_X10_feed (Nat.le_of_ble_eq_true rfl) ?_
  show zK X WC (zrm (d + 1)) M_X10_feed (zZ X WC zeI) 0 [some (.ref a0), some (.int x1), some (.int x2), some (.int x3), some (.int x4), some (.int x5), none] [] σ (f_X10_feed a0 x1 x2 x3 x4 x5 σ)
  unfold f_X10_feed
  refine z_ck (fun h0 => ?_)
  refine z_aload0 0 1 rfl rfl ?_
  refine z_getR 1 4 0 rfl rfl zf_X10_12 rfl h0 ?_
  refine z_ck (fun h1 => ?_)
  refine z_getR 2 7 0 rfl rfl zf_X10_69 rfl h1 ?_
  refine z_astore6 3 9 rfl rfl rfl (fun v2 => ?_)
  refine z_aload6 4 11 rfl rfl ?_
  refine z_ck (fun h3 => ?_)
  refine z_getI 5 14 1 rfl rfl zf_X10_73 rfl h3 ?_
  refine z_bipush 6 16 rfl rfl cb_20 ?_
  refine z_iadd 7 17 rfl rfl ?_
  refine z_sipush 8 20 rfl rfl cs_900 ?_
  refine z_icmp_le 9 23 25 rfl rfl (by decide) ?_ ?_
  · refine z_aload6 12 27 rfl rfl ?_
    refine z_iload1 13 28 rfl rfl ?_
    refine z_cV1V 14 31 rfl rfl zl_X10_78 F_X9_append (zR_rm (by omega)) (c_X9_append X d v2 x1 σ) ⟨by decide, rfl, rfl⟩ h3 rfl (Nat.le_of_ble_eq_true rfl) (fun r4 σ5 => ?_)
    refine z_aload6 15 33 rfl rfl ?_
    refine z_iload2 16 34 rfl rfl ?_
    refine z_cV1V 17 37 rfl rfl zl_X10_78 F_X9_append (zR_rm (by omega)) (c_X9_append X d v2 x2 σ5) ⟨by decide, rfl, rfl⟩ h3 rfl (Nat.le_of_ble_eq_true rfl) (fun r6 σ7 => ?_)
    refine z_aload6 18 39 rfl rfl ?_
    refine z_iload3 19 40 rfl rfl ?_
    refine z_cV1V 20 43 rfl rfl zl_X10_78 F_X9_append (zR_rm (by omega)) (c_X9_append X d v2 x3 σ7) ⟨by decide, rfl, rfl⟩ h3 rfl (Nat.le_of_ble_eq_true rfl) (fun r8 σ9 => ?_)
    refine z_aload6 21 45 rfl rfl ?_
    refine z_iload4 22 47 rfl rfl ?_
    refine z_cV1V 23 50 rfl rfl zl_X10_78 F_X9_append (zR_rm (by omega)) (c_X9_append X d v2 x4 σ9) ⟨by decide, rfl, rfl⟩ h3 rfl (Nat.le_of_ble_eq_true rfl) (fun r10 σ11 => ?_)
    refine z_aload6 24 52 rfl rfl ?_
    refine z_iload5 25 54 rfl rfl ?_
    refine z_cV1V 26 57 rfl rfl zl_X10_78 F_X9_append (zR_rm (by omega)) (c_X9_append X d v2 x5 σ11) ⟨by decide, rfl, rfl⟩ h3 rfl (Nat.le_of_ble_eq_true rfl) (fun r12 σ13 => ?_)
    refine z_aload6 27 59 rfl rfl ?_
    refine z_getI 28 62 1 rfl rfl zf_X10_73 rfl h3 ?_
    exact z_iret 29 rfl rfl
  · refine z_iconst 10 24 rfl rfl ci_m1 ?_
    exact z_iret 11 rfl rfl
def f_X10_refuse (a0 : Nat) (x1 : Int32) (σ : zS) : Option (Int32 × zS) := zck (WC.2 a0 = (10, 0)) (zlt (zpi σ a0 10 x1) (fun σ1 => some ((-1 : Int32), σ1)))
theorem c_X10_refuse (X : zX) (d : Nat) (a0 : Nat) (x1 : Int32) (σ : zS) : ∀ (r : Int32) (σ' : zS), f_X10_refuse a0 x1 σ = some (r, σ') → zCN X WC d M_X10_refuse [.ref a0, .int x1] σ (zeI r, σ') := by
  refine z_entry [.ref a0, .int x1] (by decide +kernel) T_X10_refuse (Nat.le_of_ble_eq_true rfl) ?_
  show zK X WC (zrm d) M_X10_refuse (zZ X WC zeI) 0 [some (.ref a0), some (.int x1)] [] σ (f_X10_refuse a0 x1 σ)
  unfold f_X10_refuse
  refine z_ck (fun h0 => ?_)
  refine z_aload0 0 1 rfl rfl ?_
  refine z_iload1 1 2 rfl rfl ?_
  refine z_putI 2 5 10 rfl rfl zf_X10_124 rfl rfl rfl h0 (fun σ1 => ?_)
  refine z_iconst 3 6 rfl rfl ci_m1 ?_
  exact z_iret 4 rfl rfl
def f_X10_grant (a0 : Nat) (x1 : Int32) (σ : zS) : Option (Int32 × zS) := zck (WC.2 a0 = (10, 0)) (zlt (zpi σ a0 10 (0 : Int32)) (fun σ1 => some (x1, σ1)))
theorem c_X10_grant (X : zX) (d : Nat) (a0 : Nat) (x1 : Int32) (σ : zS) : ∀ (r : Int32) (σ' : zS), f_X10_grant a0 x1 σ = some (r, σ') → zCN X WC d M_X10_grant [.ref a0, .int x1] σ (zeI r, σ') := by
  refine z_entry [.ref a0, .int x1] (by decide +kernel) T_X10_grant (Nat.le_of_ble_eq_true rfl) ?_
  show zK X WC (zrm d) M_X10_grant (zZ X WC zeI) 0 [some (.ref a0), some (.int x1)] [] σ (f_X10_grant a0 x1 σ)
  unfold f_X10_grant
  refine z_ck (fun h0 => ?_)
  refine z_aload0 0 1 rfl rfl ?_
  refine z_iconst 1 2 rfl rfl ci_0 ?_
  refine z_putI 2 5 10 rfl rfl zf_X10_124 rfl rfl rfl h0 (fun σ1 => ?_)
  refine z_iload1 3 6 rfl rfl ?_
  exact z_iret 4 rfl rfl
def f_X10_letter_18 (a0 : Nat)  (σ : zS) : Option (Int32 × zS) := zbd (f_X10_refuse a0 (2 : Int32) σ) (fun r1 σ2 => some (r1, σ2))
theorem t_X10_letter_18 (X : zX) (d : Nat) (hd : 14 ≤ d + 1) (a0 : Nat) (h0 : WC.2 a0 = (10, 0))  (σ : zS) : zK X WC (zrm (d + 1)) M_X10_letter (zZ X WC zeI) 18 [some (.ref a0), none, none] [] σ (f_X10_letter_18 a0 σ) := by
  unfold f_X10_letter_18
  refine z_aload0 8 19 rfl rfl ?_
  refine z_iconst 9 20 rfl rfl ci_2 ?_
  refine z_cV1I 10 23 rfl rfl zl_X10_82 F_X10_refuse (zR_rm (by omega)) (c_X10_refuse X d a0 (2 : Int32) σ) ⟨by decide, rfl, rfl⟩ h0 rfl (Nat.le_of_ble_eq_true rfl) (fun r1 σ2 => ?_)
  exact z_iret 11 rfl rfl
def f_X10_letter (a0 : Nat) (x1 : Int32) (σ : zS) : Option (Int32 × zS) := zck (WC.2 a0 = (10, 0)) (zbr (x1 < 0) (f_X10_letter_18 a0 σ) (zck (WC.2 (σ.2 a0 0) = (8, 0)) (zck (WC.2 (σ.2 (σ.2 a0 0) 0) = (9, 0)) (zbr (x1 ≤ (σ.1 (σ.2 (σ.2 a0 0) 0) 1)) (zbd (f_X8_readFirst (σ.2 a0 0) x1 σ) (fun r5 σ6 => zck (WC.2 (σ6.2 a0 0) = (8, 0)) (zck (WC.2 (σ6.2 (σ6.2 a0 0) 0) = (9, 0)) (zlt (zpi σ6 (σ6.2 (σ6.2 a0 0) 0) 1 (0 : Int32)) (fun σ9 => zck (WC.2 (σ9.2 a0 0) = (8, 0)) (zlt (zpi σ9 a0 11 (σ9.1 (σ9.2 a0 0) 3)) (fun σ11 => zck (WC.2 (σ11.2 a0 0) = (8, 0)) (zlt (zpi σ11 a0 12 (σ11.1 (σ11.2 a0 0) 4)) (fun σ13 => zbr ((σ13.1 a0 11) = 0) (zlt (σ13.2 a0 8) (fun v14 => zck (WC.2 (σ13.2 a0 0) = (8, 0)) (zlt (zpr σ13 a0 8 (σ13.2 (σ13.2 a0 0) 2)) (fun σ16 => zck (WC.2 (σ16.2 a0 0) = (8, 0)) (zlt (zpr σ16 (σ16.2 a0 0) 2 v14) (fun σ18 => zck (WC.2 (σ18.2 a0 8) = (3, 0)) (zck (WC.2 (σ18.2 a0 3) = (6, 0)) (zbd (f_X6_copyFrom (σ18.2 a0 3) (σ18.2 (σ18.2 a0 8) 7) σ18) (fun r21 σ22 => zck (WC.2 (σ22.2 a0 1) = (5, 0)) (zbd (f_X5_arrange (σ22.2 a0 1) (σ22.2 a0 8) (0 : Int32) σ22) (fun r24 σ25 => zck (WC.2 (σ25.2 a0 6) = (2, 0)) (zck (zb (0 : Int32)) (zlt (zpi σ25 (σ25.2 a0 6) 6 (0 : Int32)) (fun σ27 => zck (WC.2 (σ27.2 a0 5) = (7, 0)) (zlt (zpi σ27 (σ27.2 a0 5) 2 (0 : Int32)) (fun σ29 => zlt (zpi σ29 a0 9 (0 : Int32)) (fun σ30 => zck (WC.2 (σ30.2 a0 8) = (3, 0)) (zbd (f_X10_grant a0 (σ30.1 (σ30.2 a0 8) 10) σ30) (fun r32 σ33 => some (r32, σ33)))))))))))))))))))) (zbd (f_X10_refuse a0 (4 : Int32) σ13) (fun r34 σ35 => some (r34, σ35)))))))))))) (f_X10_letter_18 a0 σ)))))
theorem c_X10_letter (X : zX) (d : Nat) (hd : 14 ≤ d) (a0 : Nat) (x1 : Int32) (σ : zS) : ∀ (r : Int32) (σ' : zS), f_X10_letter a0 x1 σ = some (r, σ') → zCN X WC d M_X10_letter [.ref a0, .int x1] σ (zeI r, σ') := by
  obtain ⟨d, rfl⟩ : ∃ e, d = e + 1 := ⟨d - 1, by omega⟩
  refine z_entry [.ref a0, .int x1] (by decide +kernel) T_X10_letter (Nat.le_of_ble_eq_true rfl) ?_
  show zK X WC (zrm (d + 1)) M_X10_letter (zZ X WC zeI) 0 [some (.ref a0), some (.int x1), none] [] σ (f_X10_letter a0 x1 σ)
  unfold f_X10_letter
  refine z_ck (fun h0 => ?_)
  refine z_iload1 0 1 rfl rfl ?_
  refine z_if_lt 1 4 18 rfl rfl (by decide) ?_ ?_
  · exact z_wk (zle_e (zle_n (zle_e zle_0))) (t_X10_letter_18 X d hd a0 h0  σ)
  · refine z_iload1 2 5 rfl rfl ?_
    refine z_aload0 3 6 rfl rfl ?_
    refine z_getR 4 9 0 rfl rfl zf_X10_12 rfl h0 ?_
    refine z_ck (fun h3 => ?_)
    refine z_getR 5 12 0 rfl rfl zf_X10_69 rfl h3 ?_
    refine z_ck (fun h4 => ?_)
    refine z_getI 6 15 1 rfl rfl zf_X10_73 rfl h4 ?_
    refine z_icmp_le 7 18 24 rfl rfl (by decide) ?_ ?_
    · refine z_aload0 12 25 rfl rfl ?_
      refine z_getR 13 28 0 rfl rfl zf_X10_12 rfl h0 ?_
      refine z_iload1 14 29 rfl rfl ?_
      refine z_cV1V 15 32 rfl rfl zl_X10_86 F_X8_readFirst (zR_rm (by omega)) (c_X8_readFirst X d (by omega) (σ.2 a0 0) x1 σ) ⟨by decide, rfl, rfl⟩ h3 rfl (Nat.le_of_ble_eq_true rfl) (fun r5 σ6 => ?_)
      refine z_aload0 16 33 rfl rfl ?_
      refine z_getR 17 36 0 rfl rfl zf_X10_12 rfl h0 ?_
      refine z_ck (fun h7 => ?_)
      refine z_getR 18 39 0 rfl rfl zf_X10_69 rfl h7 ?_
      refine z_iconst 19 40 rfl rfl ci_0 ?_
      refine z_ck (fun h8 => ?_)
      refine z_putI 20 43 1 rfl rfl zf_X10_73 rfl rfl rfl h8 (fun σ9 => ?_)
      refine z_aload0 21 44 rfl rfl ?_
      refine z_aload0 22 45 rfl rfl ?_
      refine z_getR 23 48 0 rfl rfl zf_X10_12 rfl h0 ?_
      refine z_ck (fun h10 => ?_)
      refine z_getI 24 51 3 rfl rfl zf_X10_89 rfl h10 ?_
      refine z_putI 25 54 11 rfl rfl zf_X10_92 rfl rfl rfl h0 (fun σ11 => ?_)
      refine z_aload0 26 55 rfl rfl ?_
      refine z_aload0 27 56 rfl rfl ?_
      refine z_getR 28 59 0 rfl rfl zf_X10_12 rfl h0 ?_
      refine z_ck (fun h12 => ?_)
      refine z_getI 29 62 4 rfl rfl zf_X10_93 rfl h12 ?_
      refine z_putI 30 65 12 rfl rfl zf_X10_65 rfl rfl rfl h0 (fun σ13 => ?_)
      refine z_aload0 31 66 rfl rfl ?_
      refine z_getI 32 69 11 rfl rfl zf_X10_92 rfl h0 ?_
      refine z_if_eq 33 72 78 rfl rfl (by decide) ?_ ?_
      · refine z_aload0 38 79 rfl rfl ?_
        refine z_getR 39 82 8 rfl rfl zf_X10_61 rfl h0 ?_
        refine z_astore2 40 83 rfl rfl rfl (fun v14 => ?_)
        refine z_aload0 41 84 rfl rfl ?_
        refine z_aload0 42 85 rfl rfl ?_
        refine z_getR 43 88 0 rfl rfl zf_X10_12 rfl h0 ?_
        refine z_ck (fun h15 => ?_)
        refine z_getR 44 91 2 rfl rfl zf_X10_94 rfl h15 ?_
        refine z_putR (t := .int) 45 94 8 rfl rfl zf_X10_61 rfl rfl rfl h0 (fun σ16 => ?_)
        refine z_aload0 46 95 rfl rfl ?_
        refine z_getR 47 98 0 rfl rfl zf_X10_12 rfl h0 ?_
        refine z_aload2 48 99 rfl rfl ?_
        refine z_ck (fun h17 => ?_)
        refine z_putR (t := .int) 49 102 2 rfl rfl zf_X10_94 rfl rfl rfl h17 (fun σ18 => ?_)
        refine z_aload0 50 103 rfl rfl ?_
        refine z_getR 51 106 3 rfl rfl zf_X10_29 rfl h0 ?_
        refine z_aload0 52 107 rfl rfl ?_
        refine z_getR 53 110 8 rfl rfl zf_X10_61 rfl h0 ?_
        refine z_ck (fun h19 => ?_)
        refine z_getR 54 113 7 rfl rfl zf_X10_97 rfl h19 ?_
        refine z_ck (fun h20 => ?_)
        refine z_cV1V 55 116 rfl rfl zl_X10_100 F_X6_copyFrom (zR_rm (by omega)) (c_X6_copyFrom X d (σ18.2 a0 3) (σ18.2 (σ18.2 a0 8) 7) σ18) ⟨by decide, rfl, rfl⟩ h20 rfl (Nat.le_of_ble_eq_true rfl) (fun r21 σ22 => ?_)
        refine z_aload0 56 117 rfl rfl ?_
        refine z_getR 57 120 1 rfl rfl zf_X10_19 rfl h0 ?_
        refine z_aload0 58 121 rfl rfl ?_
        refine z_getR 59 124 8 rfl rfl zf_X10_61 rfl h0 ?_
        refine z_iconst 60 125 rfl rfl ci_0 ?_
        refine z_ck (fun h23 => ?_)
        refine z_cV2V 61 128 rfl rfl zl_X10_104 F_X5_arrange (zR_rm (by omega)) (c_X5_arrange X d (σ22.2 a0 1) (σ22.2 a0 8) (0 : Int32) σ22) ⟨by decide, rfl, rfl⟩ h23 rfl (Nat.le_of_ble_eq_true rfl) (fun r24 σ25 => ?_)
        refine z_aload0 62 129 rfl rfl ?_
        refine z_getR 63 132 6 rfl rfl zf_X10_47 rfl h0 ?_
        refine z_iconst 64 133 rfl rfl ci_0 ?_
        refine z_ck (fun h26 => ?_)
        refine z_putZ 65 136 6 rfl rfl zf_X10_108 rfl rfl rfl h26 (fun σ27 => ?_)
        refine z_aload0 66 137 rfl rfl ?_
        refine z_getR 67 140 5 rfl rfl zf_X10_40 rfl h0 ?_
        refine z_iconst 68 141 rfl rfl ci_0 ?_
        refine z_ck (fun h28 => ?_)
        refine z_putI 69 144 2 rfl rfl zf_X10_112 rfl rfl rfl h28 (fun σ29 => ?_)
        refine z_aload0 70 145 rfl rfl ?_
        refine z_iconst 71 146 rfl rfl ci_0 ?_
        refine z_putI 72 149 9 rfl rfl zf_X10_115 rfl rfl rfl h0 (fun σ30 => ?_)
        refine z_aload0 73 150 rfl rfl ?_
        refine z_aload0 74 151 rfl rfl ?_
        refine z_getR 75 154 8 rfl rfl zf_X10_61 rfl h0 ?_
        refine z_ck (fun h31 => ?_)
        refine z_getI 76 157 10 rfl rfl zf_X10_118 rfl h31 ?_
        refine z_cV1I 77 160 rfl rfl zl_X10_121 F_X10_grant (zR_rm (by omega)) (c_X10_grant X d a0 (σ30.1 (σ30.2 a0 8) 10) σ30) ⟨by decide, rfl, rfl⟩ h0 rfl (Nat.le_of_ble_eq_true rfl) (fun r32 σ33 => ?_)
        exact z_iret 78 rfl rfl
      · refine z_aload0 34 73 rfl rfl ?_
        refine z_iconst 35 74 rfl rfl ci_4 ?_
        refine z_cV1I 36 77 rfl rfl zl_X10_82 F_X10_refuse (zR_rm (by omega)) (c_X10_refuse X d a0 (4 : Int32) σ13) ⟨by decide, rfl, rfl⟩ h0 rfl (Nat.le_of_ble_eq_true rfl) (fun r34 σ35 => ?_)
        exact z_iret 37 rfl rfl
    · exact z_wk (zle_e (zle_n (zle_e zle_0))) (t_X10_letter_18 X d hd a0 h0  σ)
def f_X10_fault (a0 : Nat) (σ : zS) : Option (Int32 × zS) := zck (WC.2 a0 = (10, 0)) (some ((σ.1 a0 11), σ))
theorem c_X10_fault (X : zX) (d : Nat) (a0 : Nat) (σ : zS) : ∀ (r : Int32) (σ' : zS), f_X10_fault a0 σ = some (r, σ') → zCN X WC d M_X10_fault [.ref a0] σ (zeI r, σ') := by
  refine z_entry [.ref a0] (by decide +kernel) T_X10_fault (Nat.le_of_ble_eq_true rfl) ?_
  show zK X WC (zrm d) M_X10_fault (zZ X WC zeI) 0 [some (.ref a0)] [] σ (f_X10_fault a0 σ)
  unfold f_X10_fault
  refine z_ck (fun h0 => ?_)
  refine z_aload0 0 1 rfl rfl ?_
  refine z_getI 1 4 11 rfl rfl zf_X10_92 rfl h0 ?_
  exact z_iret 2 rfl rfl
def f_X10_where (a0 : Nat) (σ : zS) : Option (Int32 × zS) := zck (WC.2 a0 = (10, 0)) (zbr ((σ.1 a0 10) = (4 : Int32)) (some ((σ.1 a0 12), σ)) (some ((-1 : Int32), σ)))
theorem c_X10_where (X : zX) (d : Nat) (a0 : Nat) (σ : zS) : ∀ (r : Int32) (σ' : zS), f_X10_where a0 σ = some (r, σ') → zCN X WC d M_X10_where [.ref a0] σ (zeI r, σ') := by
  refine z_entry [.ref a0] (by decide +kernel) T_X10_where (Nat.le_of_ble_eq_true rfl) ?_
  show zK X WC (zrm d) M_X10_where (zZ X WC zeI) 0 [some (.ref a0)] [] σ (f_X10_where a0 σ)
  unfold f_X10_where
  refine z_ck (fun h0 => ?_)
  refine z_aload0 0 1 rfl rfl ?_
  refine z_getI 1 4 10 rfl rfl zf_X10_124 rfl h0 ?_
  refine z_iconst 2 5 rfl rfl ci_4 ?_
  refine z_icmp_ne 3 8 15 rfl rfl (by decide) ?_ ?_
  · refine z_aload0 4 9 rfl rfl ?_
    refine z_getI 5 12 12 rfl rfl zf_X10_65 rfl h0 ?_
    refine z_goto 6 16 rfl (by decide) ?_
    exact z_iret 8 rfl rfl
  · refine z_iconst 7 16 rfl rfl ci_m1 ?_
    exact z_iret 8 rfl rfl
def f_X10_isPlace (a0 : Nat) (x1 : Int32) (σ : zS) : Option (Int32 × zS) := zck (WC.2 a0 = (10, 0)) (zbr (x1 < 0) (zck (zb (0 : Int32)) (some ((0 : Int32), σ))) (zck (WC.2 (σ.2 a0 8) = (3, 0)) (zbr ((σ.1 (σ.2 a0 8) 10) ≤ x1) (zck (zb (0 : Int32)) (some ((0 : Int32), σ))) (zck (zb (1 : Int32)) (some ((1 : Int32), σ))))))
theorem c_X10_isPlace (X : zX) (d : Nat) (a0 : Nat) (x1 : Int32) (σ : zS) : ∀ (r : Int32) (σ' : zS), f_X10_isPlace a0 x1 σ = some (r, σ') → zCN X WC d M_X10_isPlace [.ref a0, .int x1] σ (zeI r, σ') := by
  refine z_entry [.ref a0, .int x1] (by decide +kernel) T_X10_isPlace (Nat.le_of_ble_eq_true rfl) ?_
  show zK X WC (zrm d) M_X10_isPlace (zZ X WC zeI) 0 [some (.ref a0), some (.int x1)] [] σ (f_X10_isPlace a0 x1 σ)
  unfold f_X10_isPlace
  refine z_ck (fun h0 => ?_)
  refine z_iload1 0 1 rfl rfl ?_
  refine z_if_lt 1 4 19 rfl rfl (by decide) ?_ ?_
  · refine z_iconst 9 20 rfl rfl ci_0 ?_
    exact z_zret 10 rfl rfl
  · refine z_iload1 2 5 rfl rfl ?_
    refine z_aload0 3 6 rfl rfl ?_
    refine z_getR 4 9 8 rfl rfl zf_X10_61 rfl h0 ?_
    refine z_ck (fun h1 => ?_)
    refine z_getI 5 12 10 rfl rfl zf_X10_118 rfl h1 ?_
    refine z_icmp_ge 6 15 19 rfl rfl (by decide) ?_ ?_
    · refine z_iconst 9 20 rfl rfl ci_0 ?_
      exact z_zret 10 rfl rfl
    · refine z_iconst 7 16 rfl rfl ci_1 ?_
      refine z_goto 8 20 rfl (by decide) ?_
      exact z_zret 10 rfl rfl
def f_X10_roomAt (a0 : Nat) (x1 : Int32) (σ : zS) : Option (Int32 × zS) := zck (WC.2 a0 = (10, 0)) (zck (WC.2 (σ.2 a0 8) = (3, 0)) (zck (zok 100 (WC.2 (σ.2 (σ.2 a0 8) 1)) x1) (zck (WC.2 (σ.2 a0 3) = (6, 0)) (zbd (f_X6_inchesAt (σ.2 a0 3) x1 σ) (fun r3 σ4 => some (((σ.1 (σ.2 (σ.2 a0 8) 1) x1.toNatClampNeg) - r3), σ4))))))
theorem c_X10_roomAt (X : zX) (d : Nat) (hd : 1 ≤ d) (a0 : Nat) (x1 : Int32) (σ : zS) : ∀ (r : Int32) (σ' : zS), f_X10_roomAt a0 x1 σ = some (r, σ') → zCN X WC d M_X10_roomAt [.ref a0, .int x1] σ (zeI r, σ') := by
  obtain ⟨d, rfl⟩ : ∃ e, d = e + 1 := ⟨d - 1, by omega⟩
  refine z_entry [.ref a0, .int x1] (by decide +kernel) T_X10_roomAt (Nat.le_of_ble_eq_true rfl) ?_
  show zK X WC (zrm (d + 1)) M_X10_roomAt (zZ X WC zeI) 0 [some (.ref a0), some (.int x1)] [] σ (f_X10_roomAt a0 x1 σ)
  unfold f_X10_roomAt
  refine z_ck (fun h0 => ?_)
  refine z_aload0 0 1 rfl rfl ?_
  refine z_getR 1 4 8 rfl rfl zf_X10_61 rfl h0 ?_
  refine z_ck (fun h1 => ?_)
  refine z_getR 2 7 1 rfl rfl zf_X10_135 rfl h1 ?_
  refine z_iload1 3 8 rfl rfl ?_
  refine z_iald 4 9 rfl rfl ?_
  refine z_aload0 5 10 rfl rfl ?_
  refine z_getR 6 13 3 rfl rfl zf_X10_29 rfl h0 ?_
  refine z_iload1 7 14 rfl rfl ?_
  refine z_ck (fun h2 => ?_)
  refine z_cV1I 8 17 rfl rfl zl_X10_359 F_X6_inchesAt (zR_rm (by omega)) (c_X6_inchesAt X d (σ.2 a0 3) x1 σ) ⟨by decide, rfl, rfl⟩ h2 rfl (Nat.le_of_ble_eq_true rfl) (fun r3 σ4 => ?_)
  refine z_isub 9 18 rfl rfl ?_
  exact z_iret 10 rfl rfl
def f_X10_place (a0 : Nat) (x1 : Int32) (x2 : Int32) (σ : zS) : Option (Int32 × zS) := zck (WC.2 a0 = (10, 0)) (zbd (f_X10_isPlace a0 x1 σ) (fun r1 σ2 => zbr (r1 = 0) (zbd (f_X10_refuse a0 (1 : Int32) σ2) (fun r3 σ4 => some (r3, σ4))) (zbr (x2 = (0 : Int32)) (zck (WC.2 (σ2.2 a0 8) = (3, 0)) (zck (zok 100 (WC.2 (σ2.2 (σ2.2 a0 8) 0)) x1) (zbd (f_X10_grant a0 (σ2.1 (σ2.2 (σ2.2 a0 8) 0) x1.toNatClampNeg) σ2) (fun r7 σ8 => some (r7, σ8))))) (zbr (x2 = (1 : Int32)) (zck (WC.2 (σ2.2 a0 8) = (3, 0)) (zck (zok 100 (WC.2 (σ2.2 (σ2.2 a0 8) 1)) x1) (zbd (f_X10_grant a0 (σ2.1 (σ2.2 (σ2.2 a0 8) 1) x1.toNatClampNeg) σ2) (fun r11 σ12 => some (r11, σ12))))) (zbr (x2 = (2 : Int32)) (zbd (f_X10_roomAt a0 x1 σ2) (fun r14 σ15 => zbd (f_X10_grant a0 r14 σ15) (fun r16 σ17 => some (r16, σ17)))) (zbr (x2 = (3 : Int32)) (zck (WC.2 (σ2.2 a0 1) = (5, 0)) (zck (zok 100 (WC.2 (σ2.2 (σ2.2 a0 1) 0)) x1) (zbd (f_X10_grant a0 (σ2.1 (σ2.2 (σ2.2 a0 1) 0) x1.toNatClampNeg) σ2) (fun r20 σ21 => some (r20, σ21))))) (zbr (x2 = (4 : Int32)) (zck (WC.2 (σ2.2 a0 3) = (6, 0)) (zbd (f_X6_linesAt (σ2.2 a0 3) x1 σ2) (fun r24 σ25 => zbd (f_X10_grant a0 r24 σ25) (fun r26 σ27 => some (r26, σ27))))) (zbr (x2 = (5 : Int32)) (zck (WC.2 (σ2.2 a0 3) = (6, 0)) (zbd (f_X10_grant a0 (((σ2.1 (σ2.2 a0 3) 7) >>> (x1 &&& 31)) &&& (1 : Int32)) σ2) (fun r30 σ31 => some (r30, σ31)))) (zbd (f_X10_refuse a0 (1 : Int32) σ2) (fun r32 σ33 => some (r32, σ33)))))))))))
theorem c_X10_place (X : zX) (d : Nat) (hd : 2 ≤ d) (a0 : Nat) (x1 : Int32) (x2 : Int32) (σ : zS) : ∀ (r : Int32) (σ' : zS), f_X10_place a0 x1 x2 σ = some (r, σ') → zCN X WC d M_X10_place [.ref a0, .int x1, .int x2] σ (zeI r, σ') := by
  obtain ⟨d, rfl⟩ : ∃ e, d = e + 1 := ⟨d - 1, by omega⟩
  refine z_entry [.ref a0, .int x1, .int x2] (by decide +kernel) T_X10_place (Nat.le_of_ble_eq_true rfl) ?_
  show zK X WC (zrm (d + 1)) M_X10_place (zZ X WC zeI) 0 [some (.ref a0), some (.int x1), some (.int x2)] [] σ (f_X10_place a0 x1 x2 σ)
  unfold f_X10_place
  refine z_ck (fun h0 => ?_)
  refine z_aload0 0 1 rfl rfl ?_
  refine z_iload1 1 2 rfl rfl ?_
  refine z_cV1I 2 5 rfl rfl zl_X10_127 F_X10_isPlace (zR_rm (by omega)) (c_X10_isPlace X d a0 x1 σ) ⟨by decide, rfl, rfl⟩ h0 rfl (Nat.le_of_ble_eq_true rfl) (fun r1 σ2 => ?_)
  refine z_if_ne 3 8 14 rfl rfl (by decide) ?_ ?_
  · refine z_aload0 4 9 rfl rfl ?_
    refine z_iconst 5 10 rfl rfl ci_1 ?_
    refine z_cV1I 6 13 rfl rfl zl_X10_82 F_X10_refuse (zR_rm (by omega)) (c_X10_refuse X d a0 (1 : Int32) σ2) ⟨by decide, rfl, rfl⟩ h0 rfl (Nat.le_of_ble_eq_true rfl) (fun r3 σ4 => ?_)
    exact z_iret 7 rfl rfl
  · refine z_iload2 8 15 rfl rfl ?_
    refine z_br (fun e5 => ?_) (fun e5 => ?_)
    · refine z_tabIn 9 52 rfl e5 ct_0 (by decide) (by decide) rfl (by decide) ?_
      refine z_aload0 10 53 rfl rfl ?_
      refine z_aload0 11 54 rfl rfl ?_
      refine z_getR 12 57 8 rfl rfl zf_X10_61 rfl h0 ?_
      refine z_ck (fun h6 => ?_)
      refine z_getR 13 60 0 rfl rfl zf_X10_131 rfl h6 ?_
      refine z_iload1 14 61 rfl rfl ?_
      refine z_iald 15 62 rfl rfl ?_
      refine z_cV1I 16 65 rfl rfl zl_X10_121 F_X10_grant (zR_rm (by omega)) (c_X10_grant X d a0 (σ2.1 (σ2.2 (σ2.2 a0 8) 0) x1.toNatClampNeg) σ2) ⟨by decide, rfl, rfl⟩ h0 rfl (Nat.le_of_ble_eq_true rfl) (fun r7 σ8 => ?_)
      exact z_iret 17 rfl rfl
    refine z_br (fun e9 => ?_) (fun e9 => ?_)
    · refine z_tabIn 9 66 rfl e9 ct_1 (by decide) (by decide) rfl (by decide) ?_
      refine z_aload0 18 67 rfl rfl ?_
      refine z_aload0 19 68 rfl rfl ?_
      refine z_getR 20 71 8 rfl rfl zf_X10_61 rfl h0 ?_
      refine z_ck (fun h10 => ?_)
      refine z_getR 21 74 1 rfl rfl zf_X10_135 rfl h10 ?_
      refine z_iload1 22 75 rfl rfl ?_
      refine z_iald 23 76 rfl rfl ?_
      refine z_cV1I 24 79 rfl rfl zl_X10_121 F_X10_grant (zR_rm (by omega)) (c_X10_grant X d a0 (σ2.1 (σ2.2 (σ2.2 a0 8) 1) x1.toNatClampNeg) σ2) ⟨by decide, rfl, rfl⟩ h0 rfl (Nat.le_of_ble_eq_true rfl) (fun r11 σ12 => ?_)
      exact z_iret 25 rfl rfl
    refine z_br (fun e13 => ?_) (fun e13 => ?_)
    · refine z_tabIn 9 80 rfl e13 ct_2 (by decide) (by decide) rfl (by decide) ?_
      refine z_aload0 26 81 rfl rfl ?_
      refine z_aload0 27 82 rfl rfl ?_
      refine z_iload1 28 83 rfl rfl ?_
      refine z_cV1I 29 86 rfl rfl zl_X10_138 F_X10_roomAt (zR_rm (by omega)) (c_X10_roomAt X d (by omega) a0 x1 σ2) ⟨by decide, rfl, rfl⟩ h0 rfl (Nat.le_of_ble_eq_true rfl) (fun r14 σ15 => ?_)
      refine z_cV1I 30 89 rfl rfl zl_X10_121 F_X10_grant (zR_rm (by omega)) (c_X10_grant X d a0 r14 σ15) ⟨by decide, rfl, rfl⟩ h0 rfl (Nat.le_of_ble_eq_true rfl) (fun r16 σ17 => ?_)
      exact z_iret 31 rfl rfl
    refine z_br (fun e18 => ?_) (fun e18 => ?_)
    · refine z_tabIn 9 90 rfl e18 ct_3 (by decide) (by decide) rfl (by decide) ?_
      refine z_aload0 32 91 rfl rfl ?_
      refine z_aload0 33 92 rfl rfl ?_
      refine z_getR 34 95 1 rfl rfl zf_X10_19 rfl h0 ?_
      refine z_ck (fun h19 => ?_)
      refine z_getR 35 98 0 rfl rfl zf_X10_141 rfl h19 ?_
      refine z_iload1 36 99 rfl rfl ?_
      refine z_iald 37 100 rfl rfl ?_
      refine z_cV1I 38 103 rfl rfl zl_X10_121 F_X10_grant (zR_rm (by omega)) (c_X10_grant X d a0 (σ2.1 (σ2.2 (σ2.2 a0 1) 0) x1.toNatClampNeg) σ2) ⟨by decide, rfl, rfl⟩ h0 rfl (Nat.le_of_ble_eq_true rfl) (fun r20 σ21 => ?_)
      exact z_iret 39 rfl rfl
    refine z_br (fun e22 => ?_) (fun e22 => ?_)
    · refine z_tabIn 9 104 rfl e22 ct_4 (by decide) (by decide) rfl (by decide) ?_
      refine z_aload0 40 105 rfl rfl ?_
      refine z_aload0 41 106 rfl rfl ?_
      refine z_getR 42 109 3 rfl rfl zf_X10_29 rfl h0 ?_
      refine z_iload1 43 110 rfl rfl ?_
      refine z_ck (fun h23 => ?_)
      refine z_cV1I 44 113 rfl rfl zl_X10_144 F_X6_linesAt (zR_rm (by omega)) (c_X6_linesAt X d (σ2.2 a0 3) x1 σ2) ⟨by decide, rfl, rfl⟩ h23 rfl (Nat.le_of_ble_eq_true rfl) (fun r24 σ25 => ?_)
      refine z_cV1I 45 116 rfl rfl zl_X10_121 F_X10_grant (zR_rm (by omega)) (c_X10_grant X d a0 r24 σ25) ⟨by decide, rfl, rfl⟩ h0 rfl (Nat.le_of_ble_eq_true rfl) (fun r26 σ27 => ?_)
      exact z_iret 46 rfl rfl
    refine z_br (fun e28 => ?_) (fun e28 => ?_)
    · refine z_tabIn 9 117 rfl e28 ct_5 (by decide) (by decide) rfl (by decide) ?_
      refine z_aload0 47 118 rfl rfl ?_
      refine z_aload0 48 119 rfl rfl ?_
      refine z_getR 49 122 3 rfl rfl zf_X10_29 rfl h0 ?_
      refine z_ck (fun h29 => ?_)
      refine z_getI 50 125 7 rfl rfl zf_X10_147 rfl h29 ?_
      refine z_iload1 51 126 rfl rfl ?_
      refine z_ishr 52 127 rfl rfl ?_
      refine z_iconst 53 128 rfl rfl ci_1 ?_
      refine z_iand 54 129 rfl rfl ?_
      refine z_cV1I 55 132 rfl rfl zl_X10_121 F_X10_grant (zR_rm (by omega)) (c_X10_grant X d a0 (((σ2.1 (σ2.2 a0 3) 7) >>> (x1 &&& 31)) &&& (1 : Int32)) σ2) ⟨by decide, rfl, rfl⟩ h0 rfl (Nat.le_of_ble_eq_true rfl) (fun r30 σ31 => ?_)
      exact z_iret 56 rfl rfl
    refine z_tabOut 9 133 rfl (z_out 6 (fun j hj => by rcases (show j = 0 ∨ j = 1 ∨ j = 2 ∨ j = 3 ∨ j = 4 ∨ j = 5 by omega) with rfl | rfl | rfl | rfl | rfl | rfl <;> assumption) (by decide) 5 (by decide)) (by decide) ?_
    refine z_aload0 57 134 rfl rfl ?_
    refine z_iconst 58 135 rfl rfl ci_1 ?_
    refine z_cV1I 59 138 rfl rfl zl_X10_82 F_X10_refuse (zR_rm (by omega)) (c_X10_refuse X d a0 (1 : Int32) σ2) ⟨by decide, rfl, rfl⟩ h0 rfl (Nat.le_of_ble_eq_true rfl) (fun r32 σ33 => ?_)
    exact z_iret 60 rfl rfl
def f_X10_isHand (a0 : Nat) (x1 : Int32) (σ : zS) : Option (Int32 × zS) := zck (WC.2 a0 = (10, 0)) (zbr (x1 < 0) (zck (zb (0 : Int32)) (some ((0 : Int32), σ))) (zck (WC.2 (σ.2 a0 8) = (3, 0)) (zbr ((σ.1 (σ.2 a0 8) 12) ≤ x1) (zck (zb (0 : Int32)) (some ((0 : Int32), σ))) (zck (zb (1 : Int32)) (some ((1 : Int32), σ))))))
theorem c_X10_isHand (X : zX) (d : Nat) (a0 : Nat) (x1 : Int32) (σ : zS) : ∀ (r : Int32) (σ' : zS), f_X10_isHand a0 x1 σ = some (r, σ') → zCN X WC d M_X10_isHand [.ref a0, .int x1] σ (zeI r, σ') := by
  refine z_entry [.ref a0, .int x1] (by decide +kernel) T_X10_isHand (Nat.le_of_ble_eq_true rfl) ?_
  show zK X WC (zrm d) M_X10_isHand (zZ X WC zeI) 0 [some (.ref a0), some (.int x1)] [] σ (f_X10_isHand a0 x1 σ)
  unfold f_X10_isHand
  refine z_ck (fun h0 => ?_)
  refine z_iload1 0 1 rfl rfl ?_
  refine z_if_lt 1 4 19 rfl rfl (by decide) ?_ ?_
  · refine z_iconst 9 20 rfl rfl ci_0 ?_
    exact z_zret 10 rfl rfl
  · refine z_iload1 2 5 rfl rfl ?_
    refine z_aload0 3 6 rfl rfl ?_
    refine z_getR 4 9 8 rfl rfl zf_X10_61 rfl h0 ?_
    refine z_ck (fun h1 => ?_)
    refine z_getI 5 12 12 rfl rfl zf_X10_205 rfl h1 ?_
    refine z_icmp_ge 6 15 19 rfl rfl (by decide) ?_ ?_
    · refine z_iconst 9 20 rfl rfl ci_0 ?_
      exact z_zret 10 rfl rfl
    · refine z_iconst 7 16 rfl rfl ci_1 ?_
      refine z_goto 8 20 rfl (by decide) ?_
      exact z_zret 10 rfl rfl
def f_X10_standing (a0 : Nat) (x1 : Int32) (x2 : Int32) (σ : zS) : Option (Int32 × zS) := zck (WC.2 a0 = (10, 0)) (zck (WC.2 (σ.2 a0 3) = (6, 0)) (zbd (f_X6_placesOf (σ.2 a0 3) x1 x2 σ) (fun r2 σ3 => zck (WC.2 (σ.2 a0 1) = (5, 0)) (zbd (f_X5_unbeaten (σ.2 a0 1) r2 σ3) (fun r5 σ6 => zlt r5 (fun v7 => zbr (v7 = (-1 : Int32)) (some ((-2 : Int32), σ6)) (zck (WC.2 (σ6.2 a0 3) = (6, 0)) (zbd (f_X6_latestAt (σ6.2 a0 3) v7 x1 x2 σ6) (fun r9 σ10 => some (r9, σ10))))))))))
theorem c_X10_standing (X : zX) (d : Nat) (hd : 1 ≤ d) (a0 : Nat) (x1 : Int32) (x2 : Int32) (σ : zS) : ∀ (r : Int32) (σ' : zS), f_X10_standing a0 x1 x2 σ = some (r, σ') → zCN X WC d M_X10_standing [.ref a0, .int x1, .int x2] σ (zeI r, σ') := by
  obtain ⟨d, rfl⟩ : ∃ e, d = e + 1 := ⟨d - 1, by omega⟩
  refine z_entry [.ref a0, .int x1, .int x2] (by decide +kernel) T_X10_standing (Nat.le_of_ble_eq_true rfl) ?_
  show zK X WC (zrm (d + 1)) M_X10_standing (zZ X WC zeI) 0 [some (.ref a0), some (.int x1), some (.int x2), none] [] σ (f_X10_standing a0 x1 x2 σ)
  unfold f_X10_standing
  refine z_ck (fun h0 => ?_)
  refine z_aload0 0 1 rfl rfl ?_
  refine z_getR 1 4 1 rfl rfl zf_X10_19 rfl h0 ?_
  refine z_aload0 2 5 rfl rfl ?_
  refine z_getR 3 8 3 rfl rfl zf_X10_29 rfl h0 ?_
  refine z_iload1 4 9 rfl rfl ?_
  refine z_iload2 5 10 rfl rfl ?_
  refine z_ck (fun h1 => ?_)
  refine z_cV2I 6 13 rfl rfl zl_X10_223 F_X6_placesOf (zR_rm (by omega)) (c_X6_placesOf X d (σ.2 a0 3) x1 x2 σ) ⟨by decide, rfl, rfl⟩ h1 rfl (Nat.le_of_ble_eq_true rfl) (fun r2 σ3 => ?_)
  refine z_ck (fun h4 => ?_)
  refine z_cV1I 7 16 rfl rfl zl_X10_229 F_X5_unbeaten (zR_rm (by omega)) (c_X5_unbeaten X d (σ.2 a0 1) r2 σ3) ⟨by decide, rfl, rfl⟩ h4 rfl (Nat.le_of_ble_eq_true rfl) (fun r5 σ6 => ?_)
  refine z_istore3 8 17 rfl rfl rfl (fun v7 => ?_)
  refine z_iload3 9 18 rfl rfl ?_
  refine z_iconst 10 19 rfl rfl ci_m1 ?_
  refine z_icmp_ne 11 22 27 rfl rfl (by decide) ?_ ?_
  · refine z_bipush 12 24 rfl rfl cb_m2 ?_
    refine z_goto 13 37 rfl (by decide) ?_
    exact z_iret 20 rfl rfl
  · refine z_aload0 14 28 rfl rfl ?_
    refine z_getR 15 31 3 rfl rfl zf_X10_29 rfl h0 ?_
    refine z_iload3 16 32 rfl rfl ?_
    refine z_iload1 17 33 rfl rfl ?_
    refine z_iload2 18 34 rfl rfl ?_
    refine z_ck (fun h8 => ?_)
    refine z_cV3I 19 37 rfl rfl zl_X10_362 F_X6_latestAt (zR_rm (by omega)) (c_X6_latestAt X d (σ6.2 a0 3) v7 x1 x2 σ6) ⟨by decide, rfl, rfl⟩ h8 rfl (Nat.le_of_ble_eq_true rfl) (fun r9 σ10 => ?_)
    exact z_iret 20 rfl rfl
def f_X10_ruledBy_62 (a0 : Nat) (H13 : Int32 → Int32 → Int32 → Int32 → zS → Option (Int32 × zS)) (x1 : Int32) (x2 : Int32) (x3 : Int32) (x4 : Int32) (σ : zS) : Option (Int32 × zS) := zlt (x4 + (1 : Int32)) (fun v1 => H13 x1 x2 x3 v1 σ)
theorem t_X10_ruledBy_62 (X : zX) (d : Nat) (hd : 2 ≤ d + 1) (a0 : Nat) (h0 : WC.2 a0 = (10, 0)) (H13 : Int32 → Int32 → Int32 → Int32 → zS → Option (Int32 × zS)) (hH13 : ∀ (x1 : Int32) (x2 : Int32) (x3 : Int32) (x4 : Int32) (σ : zS), zK X WC (zrm (d + 1)) M_X10_ruledBy (zZ X WC zeI) 13 [some (.ref a0), some (.int x1), some (.int x2), some (.int x3), some (.int x4), none] [] σ (H13 x1 x2 x3 x4 σ)) (x1 : Int32) (x2 : Int32) (x3 : Int32) (x4 : Int32) (σ : zS) : zK X WC (zrm (d + 1)) M_X10_ruledBy (zZ X WC zeI) 62 [some (.ref a0), some (.int x1), some (.int x2), some (.int x3), some (.int x4), none] [] σ (f_X10_ruledBy_62 a0 H13 x1 x2 x3 x4 σ) := by
  unfold f_X10_ruledBy_62
  refine z_iinc4 34 65 rfl rfl ci_1 rfl (fun v1 => ?_)
  refine z_goto 35 13 rfl (by decide) ?_
  exact hH13 x1 x2 x3 v1 σ
def f_X10_ruledBy_13 (a0 : Nat) : Nat → Int32 → Int32 → Int32 → Int32 → zS → Option (Int32 × zS)
  | 0, _, _, _, _, _ => none
  | n + 1, x1, x2, x3, x4, σ => zck (WC.2 (σ.2 a0 8) = (3, 0)) (zbr ((σ.1 (σ.2 a0 8) 13) ≤ x4) (some (x3, σ)) (zbd (f_X10_standing a0 x4 x2 σ) (fun r3 σ4 => zlt r3 (fun v5 => zbr (v5 = (-2 : Int32)) (f_X10_ruledBy_62 a0 (f_X10_ruledBy_13 a0 n) x1 x2 x3 x4 σ4) (zck (WC.2 (σ4.2 a0 3) = (6, 0)) (zck (zok 100 (WC.2 (σ4.2 (σ4.2 a0 3) 0)) v5) (zbr ((σ4.1 (σ4.2 (σ4.2 a0 3) 0) v5.toNatClampNeg) = x1) (zlt (x3 ||| ((1 : Int32) <<< (x4 &&& 31))) (fun v7 => f_X10_ruledBy_62 a0 (f_X10_ruledBy_13 a0 n) x1 x2 v7 x4 σ4)) (f_X10_ruledBy_62 a0 (f_X10_ruledBy_13 a0 n) x1 x2 x3 x4 σ4))))))))
theorem t_X10_ruledBy_13 (X : zX) (d : Nat) (hd : 2 ≤ d + 1) (a0 : Nat) (h0 : WC.2 a0 = (10, 0)) : ∀ (n : Nat) (x1 : Int32) (x2 : Int32) (x3 : Int32) (x4 : Int32) (σ : zS), zK X WC (zrm (d + 1)) M_X10_ruledBy (zZ X WC zeI) 13 [some (.ref a0), some (.int x1), some (.int x2), some (.int x3), some (.int x4), none] [] σ (f_X10_ruledBy_13 a0 n x1 x2 x3 x4 σ) := by
  intro n
  induction n with
  | zero => intro x1 x2 x3 x4 σ; exact z_none
  | succ n ih =>
    intro x1 x2 x3 x4 σ
    rw [f_X10_ruledBy_13]
    refine z_iload4 8 15 rfl rfl ?_
    refine z_aload0 9 16 rfl rfl ?_
    refine z_getR 10 19 8 rfl rfl zf_X10_61 rfl h0 ?_
    refine z_ck (fun h2 => ?_)
    refine z_getI 11 22 13 rfl rfl zf_X10_202 rfl h2 ?_
    refine z_icmp_ge 12 25 68 rfl rfl (by decide) ?_ ?_
    · refine z_iload3 36 69 rfl rfl ?_
      exact z_iret 37 rfl rfl
    · refine z_aload0 13 26 rfl rfl ?_
      refine z_iload4 14 28 rfl rfl ?_
      refine z_iload2 15 29 rfl rfl ?_
      refine z_cV2I 16 32 rfl rfl zl_X10_195 F_X10_standing (zR_rm (by omega)) (c_X10_standing X d (by omega) a0 x4 x2 σ) ⟨by decide, rfl, rfl⟩ h0 rfl (Nat.le_of_ble_eq_true rfl) (fun r3 σ4 => ?_)
      refine z_istore5 17 34 rfl rfl rfl (fun v5 => ?_)
      refine z_iload5 18 36 rfl rfl ?_
      refine z_bipush 19 38 rfl rfl cb_m2 ?_
      refine z_icmp_eq 20 41 62 rfl rfl (by decide) ?_ ?_
      · exact z_wk (zle_e (zle_e (zle_e (zle_e (zle_e (zle_n zle_0)))))) (t_X10_ruledBy_62 X d hd a0 h0 (f_X10_ruledBy_13 a0 n) ih x1 x2 x3 x4 σ4)
      · refine z_aload0 21 42 rfl rfl ?_
        refine z_getR 22 45 3 rfl rfl zf_X10_29 rfl h0 ?_
        refine z_ck (fun h6 => ?_)
        refine z_getR 23 48 0 rfl rfl zf_X10_165 rfl h6 ?_
        refine z_iload5 24 50 rfl rfl ?_
        refine z_iald 25 51 rfl rfl ?_
        refine z_iload1 26 52 rfl rfl ?_
        refine z_icmp_ne 27 55 62 rfl rfl (by decide) ?_ ?_
        · refine z_iload3 28 56 rfl rfl ?_
          refine z_iconst 29 57 rfl rfl ci_1 ?_
          refine z_iload4 30 59 rfl rfl ?_
          refine z_ishl 31 60 rfl rfl ?_
          refine z_ior 32 61 rfl rfl ?_
          refine z_istore3 33 62 rfl rfl rfl (fun v7 => ?_)
          exact z_wk (zle_e (zle_e (zle_e (zle_e (zle_e (zle_n zle_0)))))) (t_X10_ruledBy_62 X d hd a0 h0 (f_X10_ruledBy_13 a0 n) ih x1 x2 v7 x4 σ4)
        · exact z_wk (zle_e (zle_e (zle_e (zle_e (zle_e (zle_n zle_0)))))) (t_X10_ruledBy_62 X d hd a0 h0 (f_X10_ruledBy_13 a0 n) ih x1 x2 x3 x4 σ4)
def f_X10_ruledBy (a0 : Nat) (x1 : Int32) (σ : zS) : Option (Int32 × zS) := zck (WC.2 a0 = (10, 0)) (zck (WC.2 (σ.2 a0 3) = (6, 0)) (zbd (f_X6_read (σ.2 a0 3) σ) (fun r9 σ10 => zlt r9 (fun v11 => zlt (0 : Int32) (fun v12 => zlt (0 : Int32) (fun v13 => f_X10_ruledBy_13 a0 FU x1 v11 v12 v13 σ10))))))
theorem c_X10_ruledBy (X : zX) (d : Nat) (hd : 2 ≤ d) (a0 : Nat) (x1 : Int32) (σ : zS) : ∀ (r : Int32) (σ' : zS), f_X10_ruledBy a0 x1 σ = some (r, σ') → zCN X WC d M_X10_ruledBy [.ref a0, .int x1] σ (zeI r, σ') := by
  obtain ⟨d, rfl⟩ : ∃ e, d = e + 1 := ⟨d - 1, by omega⟩
  refine z_entry [.ref a0, .int x1] (by decide +kernel) T_X10_ruledBy (Nat.le_of_ble_eq_true rfl) ?_
  show zK X WC (zrm (d + 1)) M_X10_ruledBy (zZ X WC zeI) 0 [some (.ref a0), some (.int x1), none, none, none, none] [] σ (f_X10_ruledBy a0 x1 σ)
  unfold f_X10_ruledBy
  refine z_ck (fun h0 => ?_)
  refine z_aload0 0 1 rfl rfl ?_
  refine z_getR 1 4 3 rfl rfl zf_X10_29 rfl h0 ?_
  refine z_ck (fun h8 => ?_)
  refine z_cV0I 2 7 rfl rfl zl_X10_181 F_X6_read (zR_rm (by omega)) (c_X6_read X d (σ.2 a0 3) σ) ⟨by decide, rfl, rfl⟩ h8 rfl (Nat.le_of_ble_eq_true rfl) (fun r9 σ10 => ?_)
  refine z_istore2 3 8 rfl rfl rfl (fun v11 => ?_)
  refine z_iconst 4 9 rfl rfl ci_0 ?_
  refine z_istore3 5 10 rfl rfl rfl (fun v12 => ?_)
  refine z_iconst 6 11 rfl rfl ci_0 ?_
  refine z_istore4 7 13 rfl rfl rfl (fun v13 => ?_)
  exact t_X10_ruledBy_13 X d hd a0 h0  FU x1 v11 v12 v13 σ10
def f_X10_hand (a0 : Nat) (x1 : Int32) (x2 : Int32) (σ : zS) : Option (Int32 × zS) := zck (WC.2 a0 = (10, 0)) (zbd (f_X10_isHand a0 x1 σ) (fun r1 σ2 => zbr (r1 = 0) (zbd (f_X10_refuse a0 (1 : Int32) σ2) (fun r3 σ4 => some (r3, σ4))) (zbr (x2 = (0 : Int32)) (zck (WC.2 (σ2.2 a0 8) = (3, 0)) (zck (zok 100 (WC.2 (σ2.2 (σ2.2 a0 8) 4)) x1) (zbd (f_X10_grant a0 (σ2.1 (σ2.2 (σ2.2 a0 8) 4) x1.toNatClampNeg) σ2) (fun r7 σ8 => some (r7, σ8))))) (zbr (x2 = (1 : Int32)) (zck (WC.2 (σ2.2 a0 3) = (6, 0)) (zbd (f_X6_linesBy (σ2.2 a0 3) x1 σ2) (fun r11 σ12 => zbd (f_X10_grant a0 r11 σ12) (fun r13 σ14 => some (r13, σ14))))) (zbr (x2 = (2 : Int32)) (zbd (f_X10_ruledBy a0 x1 σ2) (fun r16 σ17 => zbd (f_X10_grant a0 r16 σ17) (fun r18 σ19 => some (r18, σ19)))) (zbd (f_X10_refuse a0 (1 : Int32) σ2) (fun r20 σ21 => some (r20, σ21))))))))
theorem c_X10_hand (X : zX) (d : Nat) (hd : 3 ≤ d) (a0 : Nat) (x1 : Int32) (x2 : Int32) (σ : zS) : ∀ (r : Int32) (σ' : zS), f_X10_hand a0 x1 x2 σ = some (r, σ') → zCN X WC d M_X10_hand [.ref a0, .int x1, .int x2] σ (zeI r, σ') := by
  obtain ⟨d, rfl⟩ : ∃ e, d = e + 1 := ⟨d - 1, by omega⟩
  refine z_entry [.ref a0, .int x1, .int x2] (by decide +kernel) T_X10_hand (Nat.le_of_ble_eq_true rfl) ?_
  show zK X WC (zrm (d + 1)) M_X10_hand (zZ X WC zeI) 0 [some (.ref a0), some (.int x1), some (.int x2)] [] σ (f_X10_hand a0 x1 x2 σ)
  unfold f_X10_hand
  refine z_ck (fun h0 => ?_)
  refine z_aload0 0 1 rfl rfl ?_
  refine z_iload1 1 2 rfl rfl ?_
  refine z_cV1I 2 5 rfl rfl zl_X10_150 F_X10_isHand (zR_rm (by omega)) (c_X10_isHand X d a0 x1 σ) ⟨by decide, rfl, rfl⟩ h0 rfl (Nat.le_of_ble_eq_true rfl) (fun r1 σ2 => ?_)
  refine z_if_ne 3 8 14 rfl rfl (by decide) ?_ ?_
  · refine z_aload0 4 9 rfl rfl ?_
    refine z_iconst 5 10 rfl rfl ci_1 ?_
    refine z_cV1I 6 13 rfl rfl zl_X10_82 F_X10_refuse (zR_rm (by omega)) (c_X10_refuse X d a0 (1 : Int32) σ2) ⟨by decide, rfl, rfl⟩ h0 rfl (Nat.le_of_ble_eq_true rfl) (fun r3 σ4 => ?_)
    exact z_iret 7 rfl rfl
  · refine z_iload2 8 15 rfl rfl ?_
    refine z_br (fun e5 => ?_) (fun e5 => ?_)
    · refine z_tabIn 9 40 rfl e5 ct_0 (by decide) (by decide) rfl (by decide) ?_
      refine z_aload0 10 41 rfl rfl ?_
      refine z_aload0 11 42 rfl rfl ?_
      refine z_getR 12 45 8 rfl rfl zf_X10_61 rfl h0 ?_
      refine z_ck (fun h6 => ?_)
      refine z_getR 13 48 4 rfl rfl zf_X10_153 rfl h6 ?_
      refine z_iload1 14 49 rfl rfl ?_
      refine z_iald 15 50 rfl rfl ?_
      refine z_cV1I 16 53 rfl rfl zl_X10_121 F_X10_grant (zR_rm (by omega)) (c_X10_grant X d a0 (σ2.1 (σ2.2 (σ2.2 a0 8) 4) x1.toNatClampNeg) σ2) ⟨by decide, rfl, rfl⟩ h0 rfl (Nat.le_of_ble_eq_true rfl) (fun r7 σ8 => ?_)
      exact z_iret 17 rfl rfl
    refine z_br (fun e9 => ?_) (fun e9 => ?_)
    · refine z_tabIn 9 54 rfl e9 ct_1 (by decide) (by decide) rfl (by decide) ?_
      refine z_aload0 18 55 rfl rfl ?_
      refine z_aload0 19 56 rfl rfl ?_
      refine z_getR 20 59 3 rfl rfl zf_X10_29 rfl h0 ?_
      refine z_iload1 21 60 rfl rfl ?_
      refine z_ck (fun h10 => ?_)
      refine z_cV1I 22 63 rfl rfl zl_X10_156 F_X6_linesBy (zR_rm (by omega)) (c_X6_linesBy X d (σ2.2 a0 3) x1 σ2) ⟨by decide, rfl, rfl⟩ h10 rfl (Nat.le_of_ble_eq_true rfl) (fun r11 σ12 => ?_)
      refine z_cV1I 23 66 rfl rfl zl_X10_121 F_X10_grant (zR_rm (by omega)) (c_X10_grant X d a0 r11 σ12) ⟨by decide, rfl, rfl⟩ h0 rfl (Nat.le_of_ble_eq_true rfl) (fun r13 σ14 => ?_)
      exact z_iret 24 rfl rfl
    refine z_br (fun e15 => ?_) (fun e15 => ?_)
    · refine z_tabIn 9 67 rfl e15 ct_2 (by decide) (by decide) rfl (by decide) ?_
      refine z_aload0 25 68 rfl rfl ?_
      refine z_aload0 26 69 rfl rfl ?_
      refine z_iload1 27 70 rfl rfl ?_
      refine z_cV1I 28 73 rfl rfl zl_X10_159 F_X10_ruledBy (zR_rm (by omega)) (c_X10_ruledBy X d (by omega) a0 x1 σ2) ⟨by decide, rfl, rfl⟩ h0 rfl (Nat.le_of_ble_eq_true rfl) (fun r16 σ17 => ?_)
      refine z_cV1I 29 76 rfl rfl zl_X10_121 F_X10_grant (zR_rm (by omega)) (c_X10_grant X d a0 r16 σ17) ⟨by decide, rfl, rfl⟩ h0 rfl (Nat.le_of_ble_eq_true rfl) (fun r18 σ19 => ?_)
      exact z_iret 30 rfl rfl
    refine z_tabOut 9 77 rfl (z_out 3 (fun j hj => by rcases (show j = 0 ∨ j = 1 ∨ j = 2 by omega) with rfl | rfl | rfl <;> assumption) (by decide) 2 (by decide)) (by decide) ?_
    refine z_aload0 31 78 rfl rfl ?_
    refine z_iconst 32 79 rfl rfl ci_1 ?_
    refine z_cV1I 33 82 rfl rfl zl_X10_82 F_X10_refuse (zR_rm (by omega)) (c_X10_refuse X d a0 (1 : Int32) σ2) ⟨by decide, rfl, rfl⟩ h0 rfl (Nat.le_of_ble_eq_true rfl) (fun r20 σ21 => ?_)
    exact z_iret 34 rfl rfl
def f_X10_isLine (a0 : Nat) (x1 : Int32) (σ : zS) : Option (Int32 × zS) := zck (WC.2 a0 = (10, 0)) (zbr (x1 < 0) (zck (zb (0 : Int32)) (some ((0 : Int32), σ))) (zck (WC.2 (σ.2 a0 3) = (6, 0)) (zbr ((σ.1 (σ.2 a0 3) 5) ≤ x1) (zck (zb (0 : Int32)) (some ((0 : Int32), σ))) (zck (zb (1 : Int32)) (some ((1 : Int32), σ))))))
theorem c_X10_isLine (X : zX) (d : Nat) (a0 : Nat) (x1 : Int32) (σ : zS) : ∀ (r : Int32) (σ' : zS), f_X10_isLine a0 x1 σ = some (r, σ') → zCN X WC d M_X10_isLine [.ref a0, .int x1] σ (zeI r, σ') := by
  refine z_entry [.ref a0, .int x1] (by decide +kernel) T_X10_isLine (Nat.le_of_ble_eq_true rfl) ?_
  show zK X WC (zrm d) M_X10_isLine (zZ X WC zeI) 0 [some (.ref a0), some (.int x1)] [] σ (f_X10_isLine a0 x1 σ)
  unfold f_X10_isLine
  refine z_ck (fun h0 => ?_)
  refine z_iload1 0 1 rfl rfl ?_
  refine z_if_lt 1 4 19 rfl rfl (by decide) ?_ ?_
  · refine z_iconst 9 20 rfl rfl ci_0 ?_
    exact z_zret 10 rfl rfl
  · refine z_iload1 2 5 rfl rfl ?_
    refine z_aload0 3 6 rfl rfl ?_
    refine z_getR 4 9 3 rfl rfl zf_X10_29 rfl h0 ?_
    refine z_ck (fun h1 => ?_)
    refine z_getI 5 12 5 rfl rfl zf_X10_216 rfl h1 ?_
    refine z_icmp_ge 6 15 19 rfl rfl (by decide) ?_ ?_
    · refine z_iconst 9 20 rfl rfl ci_0 ?_
      exact z_zret 10 rfl rfl
    · refine z_iconst 7 16 rfl rfl ci_1 ?_
      refine z_goto 8 20 rfl (by decide) ?_
      exact z_zret 10 rfl rfl
def f_X10_beaters_160 (a0 : Nat) (H23 : Int32 → Int32 → Int32 → Int32 → zS → Option (Int32 × zS)) (x1 : Int32) (x2 : Int32) (x3 : Int32) (x4 : Int32) (σ : zS) : Option (Int32 × zS) := zlt (x4 + (1 : Int32)) (fun v1 => H23 x1 x2 x3 v1 σ)
theorem t_X10_beaters_160 (X : zX) (d : Nat) (hd : 1 ≤ d + 1) (a0 : Nat) (h0 : WC.2 a0 = (10, 0)) (H23 : Int32 → Int32 → Int32 → Int32 → zS → Option (Int32 × zS)) (hH23 : ∀ (x1 : Int32) (x2 : Int32) (x3 : Int32) (x4 : Int32) (σ : zS), zK X WC (zrm (d + 1)) M_X10_beaters (zZ X WC zeI) 23 [some (.ref a0), some (.int x1), some (.int x2), some (.int x3), some (.int x4), none, none] [] σ (H23 x1 x2 x3 x4 σ)) (x1 : Int32) (x2 : Int32) (x3 : Int32) (x4 : Int32) (σ : zS) : zK X WC (zrm (d + 1)) M_X10_beaters (zZ X WC zeI) 160 [some (.ref a0), some (.int x1), some (.int x2), some (.int x3), some (.int x4), none, none] [] σ (f_X10_beaters_160 a0 H23 x1 x2 x3 x4 σ) := by
  unfold f_X10_beaters_160
  refine z_iinc4 90 163 rfl rfl ci_1 rfl (fun v1 => ?_)
  refine z_goto 91 23 rfl (by decide) ?_
  exact hH23 x1 x2 x3 v1 σ
def f_X10_beaters_153 (a0 : Nat) (H23 : Int32 → Int32 → Int32 → Int32 → zS → Option (Int32 × zS)) (x1 : Int32) (x2 : Int32) (x3 : Int32) (x4 : Int32) (σ : zS) : Option (Int32 × zS) := zlt (x3 ||| ((1 : Int32) <<< (x4 &&& 31))) (fun v2 => f_X10_beaters_160 a0 H23 x1 x2 v2 x4 σ)
theorem t_X10_beaters_153 (X : zX) (d : Nat) (hd : 1 ≤ d + 1) (a0 : Nat) (h0 : WC.2 a0 = (10, 0)) (H23 : Int32 → Int32 → Int32 → Int32 → zS → Option (Int32 × zS)) (hH23 : ∀ (x1 : Int32) (x2 : Int32) (x3 : Int32) (x4 : Int32) (σ : zS), zK X WC (zrm (d + 1)) M_X10_beaters (zZ X WC zeI) 23 [some (.ref a0), some (.int x1), some (.int x2), some (.int x3), some (.int x4), none, none] [] σ (H23 x1 x2 x3 x4 σ)) (x1 : Int32) (x2 : Int32) (x3 : Int32) (x4 : Int32) (σ : zS) : zK X WC (zrm (d + 1)) M_X10_beaters (zZ X WC zeI) 153 [some (.ref a0), some (.int x1), some (.int x2), some (.int x3), some (.int x4), none, none] [] σ (f_X10_beaters_153 a0 H23 x1 x2 x3 x4 σ) := by
  unfold f_X10_beaters_153
  refine z_iload3 84 154 rfl rfl ?_
  refine z_iconst 85 155 rfl rfl ci_1 ?_
  refine z_iload4 86 157 rfl rfl ?_
  refine z_ishl 87 158 rfl rfl ?_
  refine z_ior 88 159 rfl rfl ?_
  refine z_istore3 89 160 rfl rfl rfl (fun v2 => ?_)
  exact t_X10_beaters_160 X d hd a0 h0 H23 hH23 x1 x2 v2 x4 σ
def f_X10_beaters_107 (a0 : Nat) (H23 : Int32 → Int32 → Int32 → Int32 → zS → Option (Int32 × zS)) (x1 : Int32) (x2 : Int32) (x3 : Int32) (x4 : Int32) (x5 : Int32) (s0 : Int32) (σ : zS) : Option (Int32 × zS) := zlt s0 (fun v3 => zbr (x5 = 0) (f_X10_beaters_160 a0 H23 x1 x2 x3 x4 σ) (zbr (v3 = 0) (zck (WC.2 (σ.2 a0 1) = (5, 0)) (zck (WC.2 (σ.2 a0 3) = (6, 0)) (zck (zok 100 (WC.2 (σ.2 (σ.2 a0 3) 1)) x4) (zck (zok 100 (WC.2 (σ.2 (σ.2 a0 1) 0)) (σ.1 (σ.2 (σ.2 a0 3) 1) x4.toNatClampNeg)) (zck (zok 100 (WC.2 (σ.2 (σ.2 a0 3) 1)) x1) (zbr ((((σ.1 (σ.2 (σ.2 a0 1) 0) (σ.1 (σ.2 (σ.2 a0 3) 1) x4.toNatClampNeg).toNatClampNeg) >>> ((σ.1 (σ.2 (σ.2 a0 3) 1) x1.toNatClampNeg) &&& 31)) &&& (1 : Int32)) = (1 : Int32)) (f_X10_beaters_153 a0 H23 x1 x2 x3 x4 σ) (f_X10_beaters_160 a0 H23 x1 x2 x3 x4 σ))))))) (f_X10_beaters_153 a0 H23 x1 x2 x3 x4 σ)))
theorem t_X10_beaters_107 (X : zX) (d : Nat) (hd : 1 ≤ d + 1) (a0 : Nat) (h0 : WC.2 a0 = (10, 0)) (H23 : Int32 → Int32 → Int32 → Int32 → zS → Option (Int32 × zS)) (hH23 : ∀ (x1 : Int32) (x2 : Int32) (x3 : Int32) (x4 : Int32) (σ : zS), zK X WC (zrm (d + 1)) M_X10_beaters (zZ X WC zeI) 23 [some (.ref a0), some (.int x1), some (.int x2), some (.int x3), some (.int x4), none, none] [] σ (H23 x1 x2 x3 x4 σ)) (x1 : Int32) (x2 : Int32) (x3 : Int32) (x4 : Int32) (x5 : Int32) (s0 : Int32) (σ : zS) : zK X WC (zrm (d + 1)) M_X10_beaters (zZ X WC zeI) 107 [some (.ref a0), some (.int x1), some (.int x2), some (.int x3), some (.int x4), some (.int x5), none] [.int s0] σ (f_X10_beaters_107 a0 H23 x1 x2 x3 x4 x5 s0 σ) := by
  unfold f_X10_beaters_107
  refine z_istore6 60 109 rfl rfl rfl (fun v3 => ?_)
  refine z_iload5 61 111 rfl rfl ?_
  refine z_if_eq 62 114 160 rfl rfl (by decide) ?_ ?_
  · exact z_wk (zle_e (zle_e (zle_e (zle_e (zle_e (zle_n (zle_n zle_0))))))) (t_X10_beaters_160 X d hd a0 h0 H23 hH23 x1 x2 x3 x4 σ)
  · refine z_iload6 63 116 rfl rfl ?_
    refine z_if_ne 64 119 153 rfl rfl (by decide) ?_ ?_
    · refine z_aload0 65 120 rfl rfl ?_
      refine z_getR 66 123 1 rfl rfl zf_X10_19 rfl h0 ?_
      refine z_ck (fun h4 => ?_)
      refine z_getR 67 126 0 rfl rfl zf_X10_141 rfl h4 ?_
      refine z_aload0 68 127 rfl rfl ?_
      refine z_getR 69 130 3 rfl rfl zf_X10_29 rfl h0 ?_
      refine z_ck (fun h5 => ?_)
      refine z_getR 70 133 1 rfl rfl zf_X10_168 rfl h5 ?_
      refine z_iload4 71 135 rfl rfl ?_
      refine z_iald 72 136 rfl rfl ?_
      refine z_iald 73 137 rfl rfl ?_
      refine z_aload0 74 138 rfl rfl ?_
      refine z_getR 75 141 3 rfl rfl zf_X10_29 rfl h0 ?_
      refine z_getR 76 144 1 rfl rfl zf_X10_168 rfl h5 ?_
      refine z_iload1 77 145 rfl rfl ?_
      refine z_iald 78 146 rfl rfl ?_
      refine z_ishr 79 147 rfl rfl ?_
      refine z_iconst 80 148 rfl rfl ci_1 ?_
      refine z_iand 81 149 rfl rfl ?_
      refine z_iconst 82 150 rfl rfl ci_1 ?_
      refine z_icmp_ne 83 153 160 rfl rfl (by decide) ?_ ?_
      · exact z_wk (zle_e (zle_e (zle_e (zle_e (zle_e (zle_n (zle_n zle_0))))))) (t_X10_beaters_153 X d hd a0 h0 H23 hH23 x1 x2 x3 x4 σ)
      · exact z_wk (zle_e (zle_e (zle_e (zle_e (zle_e (zle_n (zle_n zle_0))))))) (t_X10_beaters_160 X d hd a0 h0 H23 hH23 x1 x2 x3 x4 σ)
    · exact z_wk (zle_e (zle_e (zle_e (zle_e (zle_e (zle_n (zle_n zle_0))))))) (t_X10_beaters_153 X d hd a0 h0 H23 hH23 x1 x2 x3 x4 σ)
def f_X10_beaters_106 (a0 : Nat) (H23 : Int32 → Int32 → Int32 → Int32 → zS → Option (Int32 × zS)) (x1 : Int32) (x2 : Int32) (x3 : Int32) (x4 : Int32) (x5 : Int32) (σ : zS) : Option (Int32 × zS) := f_X10_beaters_107 a0 H23 x1 x2 x3 x4 x5 (0 : Int32) σ
theorem t_X10_beaters_106 (X : zX) (d : Nat) (hd : 1 ≤ d + 1) (a0 : Nat) (h0 : WC.2 a0 = (10, 0)) (H23 : Int32 → Int32 → Int32 → Int32 → zS → Option (Int32 × zS)) (hH23 : ∀ (x1 : Int32) (x2 : Int32) (x3 : Int32) (x4 : Int32) (σ : zS), zK X WC (zrm (d + 1)) M_X10_beaters (zZ X WC zeI) 23 [some (.ref a0), some (.int x1), some (.int x2), some (.int x3), some (.int x4), none, none] [] σ (H23 x1 x2 x3 x4 σ)) (x1 : Int32) (x2 : Int32) (x3 : Int32) (x4 : Int32) (x5 : Int32) (σ : zS) : zK X WC (zrm (d + 1)) M_X10_beaters (zZ X WC zeI) 106 [some (.ref a0), some (.int x1), some (.int x2), some (.int x3), some (.int x4), some (.int x5), none] [] σ (f_X10_beaters_106 a0 H23 x1 x2 x3 x4 x5 σ) := by
  unfold f_X10_beaters_106
  refine z_iconst 59 107 rfl rfl ci_0 ?_
  exact t_X10_beaters_107 X d hd a0 h0 H23 hH23 x1 x2 x3 x4 x5 (0 : Int32) σ
def f_X10_beaters_72 (a0 : Nat) (H23 : Int32 → Int32 → Int32 → Int32 → zS → Option (Int32 × zS)) (x1 : Int32) (x2 : Int32) (x3 : Int32) (x4 : Int32) (s0 : Int32) (σ : zS) : Option (Int32 × zS) := zlt s0 (fun v6 => zck (WC.2 (σ.2 a0 3) = (6, 0)) (zck (zok 100 (WC.2 (σ.2 (σ.2 a0 3) 1)) x4) (zck (zok 100 (WC.2 (σ.2 (σ.2 a0 3) 1)) x1) (zbr ((σ.1 (σ.2 (σ.2 a0 3) 1) x4.toNatClampNeg) = (σ.1 (σ.2 (σ.2 a0 3) 1) x1.toNatClampNeg)) (zbr (x4 ≤ x1) (f_X10_beaters_106 a0 H23 x1 x2 x3 x4 v6 σ) (f_X10_beaters_107 a0 H23 x1 x2 x3 x4 v6 (1 : Int32) σ)) (f_X10_beaters_106 a0 H23 x1 x2 x3 x4 v6 σ)))))
theorem t_X10_beaters_72 (X : zX) (d : Nat) (hd : 1 ≤ d + 1) (a0 : Nat) (h0 : WC.2 a0 = (10, 0)) (H23 : Int32 → Int32 → Int32 → Int32 → zS → Option (Int32 × zS)) (hH23 : ∀ (x1 : Int32) (x2 : Int32) (x3 : Int32) (x4 : Int32) (σ : zS), zK X WC (zrm (d + 1)) M_X10_beaters (zZ X WC zeI) 23 [some (.ref a0), some (.int x1), some (.int x2), some (.int x3), some (.int x4), none, none] [] σ (H23 x1 x2 x3 x4 σ)) (x1 : Int32) (x2 : Int32) (x3 : Int32) (x4 : Int32) (s0 : Int32) (σ : zS) : zK X WC (zrm (d + 1)) M_X10_beaters (zZ X WC zeI) 72 [some (.ref a0), some (.int x1), some (.int x2), some (.int x3), some (.int x4), none, none] [.int s0] σ (f_X10_beaters_72 a0 H23 x1 x2 x3 x4 s0 σ) := by
  unfold f_X10_beaters_72
  refine z_istore5 42 74 rfl rfl rfl (fun v6 => ?_)
  refine z_aload0 43 75 rfl rfl ?_
  refine z_getR 44 78 3 rfl rfl zf_X10_29 rfl h0 ?_
  refine z_ck (fun h7 => ?_)
  refine z_getR 45 81 1 rfl rfl zf_X10_168 rfl h7 ?_
  refine z_iload4 46 83 rfl rfl ?_
  refine z_iald 47 84 rfl rfl ?_
  refine z_aload0 48 85 rfl rfl ?_
  refine z_getR 49 88 3 rfl rfl zf_X10_29 rfl h0 ?_
  refine z_getR 50 91 1 rfl rfl zf_X10_168 rfl h7 ?_
  refine z_iload1 51 92 rfl rfl ?_
  refine z_iald 52 93 rfl rfl ?_
  refine z_icmp_ne 53 96 106 rfl rfl (by decide) ?_ ?_
  · refine z_iload4 54 98 rfl rfl ?_
    refine z_iload1 55 99 rfl rfl ?_
    refine z_icmp_le 56 102 106 rfl rfl (by decide) ?_ ?_
    · exact t_X10_beaters_106 X d hd a0 h0 H23 hH23 x1 x2 x3 x4 v6 σ
    · refine z_iconst 57 103 rfl rfl ci_1 ?_
      refine z_goto 58 107 rfl (by decide) ?_
      exact t_X10_beaters_107 X d hd a0 h0 H23 hH23 x1 x2 x3 x4 v6 (1 : Int32) σ
  · exact t_X10_beaters_106 X d hd a0 h0 H23 hH23 x1 x2 x3 x4 v6 σ
def f_X10_beaters_71 (a0 : Nat) (H23 : Int32 → Int32 → Int32 → Int32 → zS → Option (Int32 × zS)) (x1 : Int32) (x2 : Int32) (x3 : Int32) (x4 : Int32) (σ : zS) : Option (Int32 × zS) := f_X10_beaters_72 a0 H23 x1 x2 x3 x4 (0 : Int32) σ
theorem t_X10_beaters_71 (X : zX) (d : Nat) (hd : 1 ≤ d + 1) (a0 : Nat) (h0 : WC.2 a0 = (10, 0)) (H23 : Int32 → Int32 → Int32 → Int32 → zS → Option (Int32 × zS)) (hH23 : ∀ (x1 : Int32) (x2 : Int32) (x3 : Int32) (x4 : Int32) (σ : zS), zK X WC (zrm (d + 1)) M_X10_beaters (zZ X WC zeI) 23 [some (.ref a0), some (.int x1), some (.int x2), some (.int x3), some (.int x4), none, none] [] σ (H23 x1 x2 x3 x4 σ)) (x1 : Int32) (x2 : Int32) (x3 : Int32) (x4 : Int32) (σ : zS) : zK X WC (zrm (d + 1)) M_X10_beaters (zZ X WC zeI) 71 [some (.ref a0), some (.int x1), some (.int x2), some (.int x3), some (.int x4), none, none] [] σ (f_X10_beaters_71 a0 H23 x1 x2 x3 x4 σ) := by
  unfold f_X10_beaters_71
  refine z_iconst 41 72 rfl rfl ci_0 ?_
  exact t_X10_beaters_72 X d hd a0 h0 H23 hH23 x1 x2 x3 x4 (0 : Int32) σ
def f_X10_beaters_23 (a0 : Nat) : Nat → Int32 → Int32 → Int32 → Int32 → zS → Option (Int32 × zS)
  | 0, _, _, _, _, _ => none
  | n + 1, x1, x2, x3, x4, σ => zck (WC.2 (σ.2 a0 3) = (6, 0)) (zbr ((σ.1 (σ.2 a0 3) 5) ≤ x4) (some (x3, σ)) (zbr (((x2 >>> (x4 &&& 31)) &&& (1 : Int32)) = (1 : Int32)) (zck (zok 100 (WC.2 (σ.2 (σ.2 a0 3) 2)) x4) (zck (zok 100 (WC.2 (σ.2 (σ.2 a0 3) 2)) x1) (zbr ((σ.1 (σ.2 (σ.2 a0 3) 2) x4.toNatClampNeg) = (σ.1 (σ.2 (σ.2 a0 3) 2) x1.toNatClampNeg)) (f_X10_beaters_72 a0 (f_X10_beaters_23 a0 n) x1 x2 x3 x4 (1 : Int32) σ) (f_X10_beaters_71 a0 (f_X10_beaters_23 a0 n) x1 x2 x3 x4 σ)))) (f_X10_beaters_71 a0 (f_X10_beaters_23 a0 n) x1 x2 x3 x4 σ)))
theorem t_X10_beaters_23 (X : zX) (d : Nat) (hd : 1 ≤ d + 1) (a0 : Nat) (h0 : WC.2 a0 = (10, 0)) : ∀ (n : Nat) (x1 : Int32) (x2 : Int32) (x3 : Int32) (x4 : Int32) (σ : zS), zK X WC (zrm (d + 1)) M_X10_beaters (zZ X WC zeI) 23 [some (.ref a0), some (.int x1), some (.int x2), some (.int x3), some (.int x4), none, none] [] σ (f_X10_beaters_23 a0 n x1 x2 x3 x4 σ) := by
  intro n
  induction n with
  | zero => intro x1 x2 x3 x4 σ; exact z_none
  | succ n ih =>
    intro x1 x2 x3 x4 σ
    rw [f_X10_beaters_23]
    refine z_iload4 16 25 rfl rfl ?_
    refine z_aload0 17 26 rfl rfl ?_
    refine z_getR 18 29 3 rfl rfl zf_X10_29 rfl h0 ?_
    refine z_ck (fun h8 => ?_)
    refine z_getI 19 32 5 rfl rfl zf_X10_216 rfl h8 ?_
    refine z_icmp_ge 20 35 166 rfl rfl (by decide) ?_ ?_
    · refine z_iload3 92 167 rfl rfl ?_
      exact z_iret 93 rfl rfl
    · refine z_iload2 21 36 rfl rfl ?_
      refine z_iload4 22 38 rfl rfl ?_
      refine z_ishr 23 39 rfl rfl ?_
      refine z_iconst 24 40 rfl rfl ci_1 ?_
      refine z_iand 25 41 rfl rfl ?_
      refine z_iconst 26 42 rfl rfl ci_1 ?_
      refine z_icmp_ne 27 45 71 rfl rfl (by decide) ?_ ?_
      · refine z_aload0 28 46 rfl rfl ?_
        refine z_getR 29 49 3 rfl rfl zf_X10_29 rfl h0 ?_
        refine z_getR 30 52 2 rfl rfl zf_X10_171 rfl h8 ?_
        refine z_iload4 31 54 rfl rfl ?_
        refine z_iald 32 55 rfl rfl ?_
        refine z_aload0 33 56 rfl rfl ?_
        refine z_getR 34 59 3 rfl rfl zf_X10_29 rfl h0 ?_
        refine z_getR 35 62 2 rfl rfl zf_X10_171 rfl h8 ?_
        refine z_iload1 36 63 rfl rfl ?_
        refine z_iald 37 64 rfl rfl ?_
        refine z_icmp_ne 38 67 71 rfl rfl (by decide) ?_ ?_
        · refine z_iconst 39 68 rfl rfl ci_1 ?_
          refine z_goto 40 72 rfl (by decide) ?_
          exact t_X10_beaters_72 X d hd a0 h0 (f_X10_beaters_23 a0 n) ih x1 x2 x3 x4 (1 : Int32) σ
        · exact t_X10_beaters_71 X d hd a0 h0 (f_X10_beaters_23 a0 n) ih x1 x2 x3 x4 σ
      · exact t_X10_beaters_71 X d hd a0 h0 (f_X10_beaters_23 a0 n) ih x1 x2 x3 x4 σ
def f_X10_beaters (a0 : Nat) (x1 : Int32) (σ : zS) : Option (Int32 × zS) := zck (WC.2 a0 = (10, 0)) (zck (WC.2 (σ.2 a0 3) = (6, 0)) (zbd (f_X6_read (σ.2 a0 3) σ) (fun r10 σ11 => zlt r10 (fun v12 => zbr (((v12 >>> (x1 &&& 31)) &&& (1 : Int32)) = 0) (some ((0 : Int32), σ11)) (zlt (0 : Int32) (fun v13 => zlt (0 : Int32) (fun v14 => f_X10_beaters_23 a0 FU x1 v12 v13 v14 σ11)))))))
theorem c_X10_beaters (X : zX) (d : Nat) (hd : 1 ≤ d) (a0 : Nat) (x1 : Int32) (σ : zS) : ∀ (r : Int32) (σ' : zS), f_X10_beaters a0 x1 σ = some (r, σ') → zCN X WC d M_X10_beaters [.ref a0, .int x1] σ (zeI r, σ') := by
  obtain ⟨d, rfl⟩ : ∃ e, d = e + 1 := ⟨d - 1, by omega⟩
  refine z_entry [.ref a0, .int x1] (by decide +kernel) T_X10_beaters (Nat.le_of_ble_eq_true rfl) ?_
  show zK X WC (zrm (d + 1)) M_X10_beaters (zZ X WC zeI) 0 [some (.ref a0), some (.int x1), none, none, none, none, none] [] σ (f_X10_beaters a0 x1 σ)
  unfold f_X10_beaters
  refine z_ck (fun h0 => ?_)
  refine z_aload0 0 1 rfl rfl ?_
  refine z_getR 1 4 3 rfl rfl zf_X10_29 rfl h0 ?_
  refine z_ck (fun h9 => ?_)
  refine z_cV0I 2 7 rfl rfl zl_X10_181 F_X6_read (zR_rm (by omega)) (c_X6_read X d (σ.2 a0 3) σ) ⟨by decide, rfl, rfl⟩ h9 rfl (Nat.le_of_ble_eq_true rfl) (fun r10 σ11 => ?_)
  refine z_istore2 3 8 rfl rfl rfl (fun v12 => ?_)
  refine z_iload2 4 9 rfl rfl ?_
  refine z_iload1 5 10 rfl rfl ?_
  refine z_ishr 6 11 rfl rfl ?_
  refine z_iconst 7 12 rfl rfl ci_1 ?_
  refine z_iand 8 13 rfl rfl ?_
  refine z_if_ne 9 16 18 rfl rfl (by decide) ?_ ?_
  · refine z_iconst 10 17 rfl rfl ci_0 ?_
    exact z_iret 11 rfl rfl
  · refine z_iconst 12 19 rfl rfl ci_0 ?_
    refine z_istore3 13 20 rfl rfl rfl (fun v13 => ?_)
    refine z_iconst 14 21 rfl rfl ci_0 ?_
    refine z_istore4 15 23 rfl rfl rfl (fun v14 => ?_)
    exact t_X10_beaters_23 X d hd a0 h0  FU x1 v12 v13 v14 σ11
def f_X10_line (a0 : Nat) (x1 : Int32) (x2 : Int32) (σ : zS) : Option (Int32 × zS) := zck (WC.2 a0 = (10, 0)) (zbd (f_X10_isLine a0 x1 σ) (fun r1 σ2 => zbr (r1 = 0) (zbd (f_X10_refuse a0 (1 : Int32) σ2) (fun r3 σ4 => some (r3, σ4))) (zbr (x2 = (0 : Int32)) (zck (WC.2 (σ2.2 a0 3) = (6, 0)) (zck (zok 100 (WC.2 (σ2.2 (σ2.2 a0 3) 0)) x1) (zbd (f_X10_grant a0 (σ2.1 (σ2.2 (σ2.2 a0 3) 0) x1.toNatClampNeg) σ2) (fun r7 σ8 => some (r7, σ8))))) (zbr (x2 = (1 : Int32)) (zck (WC.2 (σ2.2 a0 3) = (6, 0)) (zck (zok 100 (WC.2 (σ2.2 (σ2.2 a0 3) 1)) x1) (zbd (f_X10_grant a0 (σ2.1 (σ2.2 (σ2.2 a0 3) 1) x1.toNatClampNeg) σ2) (fun r11 σ12 => some (r11, σ12))))) (zbr (x2 = (2 : Int32)) (zck (WC.2 (σ2.2 a0 3) = (6, 0)) (zck (zok 100 (WC.2 (σ2.2 (σ2.2 a0 3) 2)) x1) (zbd (f_X10_grant a0 (σ2.1 (σ2.2 (σ2.2 a0 3) 2) x1.toNatClampNeg) σ2) (fun r15 σ16 => some (r15, σ16))))) (zbr (x2 = (3 : Int32)) (zck (WC.2 (σ2.2 a0 3) = (6, 0)) (zck (zok 100 (WC.2 (σ2.2 (σ2.2 a0 3) 3)) x1) (zbd (f_X10_grant a0 (σ2.1 (σ2.2 (σ2.2 a0 3) 3) x1.toNatClampNeg) σ2) (fun r19 σ20 => some (r19, σ20))))) (zbr (x2 = (4 : Int32)) (zck (WC.2 (σ2.2 a0 3) = (6, 0)) (zck (zok 100 (WC.2 (σ2.2 (σ2.2 a0 3) 4)) x1) (zbd (f_X10_grant a0 (σ2.1 (σ2.2 (σ2.2 a0 3) 4) x1.toNatClampNeg) σ2) (fun r23 σ24 => some (r23, σ24))))) (zbr (x2 = (5 : Int32)) (zck (WC.2 (σ2.2 a0 3) = (6, 0)) (zbd (f_X10_grant a0 (((σ2.1 (σ2.2 a0 3) 6) >>> (x1 &&& 31)) &&& (1 : Int32)) σ2) (fun r27 σ28 => some (r27, σ28)))) (zbr (x2 = (6 : Int32)) (zck (WC.2 (σ2.2 a0 3) = (6, 0)) (zbd (f_X6_read (σ2.2 a0 3) σ2) (fun r31 σ32 => zbd (f_X10_grant a0 ((r31 >>> (x1 &&& 31)) &&& (1 : Int32)) σ32) (fun r33 σ34 => some (r33, σ34))))) (zbr (x2 = (7 : Int32)) (zbd (f_X10_beaters a0 x1 σ2) (fun r36 σ37 => zbd (f_X10_grant a0 r36 σ37) (fun r38 σ39 => some (r38, σ39)))) (zbd (f_X10_refuse a0 (1 : Int32) σ2) (fun r40 σ41 => some (r40, σ41)))))))))))))
theorem c_X10_line (X : zX) (d : Nat) (hd : 2 ≤ d) (a0 : Nat) (x1 : Int32) (x2 : Int32) (σ : zS) : ∀ (r : Int32) (σ' : zS), f_X10_line a0 x1 x2 σ = some (r, σ') → zCN X WC d M_X10_line [.ref a0, .int x1, .int x2] σ (zeI r, σ') := by
  obtain ⟨d, rfl⟩ : ∃ e, d = e + 1 := ⟨d - 1, by omega⟩
  refine z_entry [.ref a0, .int x1, .int x2] (by decide +kernel) T_X10_line (Nat.le_of_ble_eq_true rfl) ?_
  show zK X WC (zrm (d + 1)) M_X10_line (zZ X WC zeI) 0 [some (.ref a0), some (.int x1), some (.int x2)] [] σ (f_X10_line a0 x1 x2 σ)
  unfold f_X10_line
  refine z_ck (fun h0 => ?_)
  refine z_aload0 0 1 rfl rfl ?_
  refine z_iload1 1 2 rfl rfl ?_
  refine z_cV1I 2 5 rfl rfl zl_X10_162 F_X10_isLine (zR_rm (by omega)) (c_X10_isLine X d a0 x1 σ) ⟨by decide, rfl, rfl⟩ h0 rfl (Nat.le_of_ble_eq_true rfl) (fun r1 σ2 => ?_)
  refine z_if_ne 3 8 14 rfl rfl (by decide) ?_ ?_
  · refine z_aload0 4 9 rfl rfl ?_
    refine z_iconst 5 10 rfl rfl ci_1 ?_
    refine z_cV1I 6 13 rfl rfl zl_X10_82 F_X10_refuse (zR_rm (by omega)) (c_X10_refuse X d a0 (1 : Int32) σ2) ⟨by decide, rfl, rfl⟩ h0 rfl (Nat.le_of_ble_eq_true rfl) (fun r3 σ4 => ?_)
    exact z_iret 7 rfl rfl
  · refine z_iload2 8 15 rfl rfl ?_
    refine z_br (fun e5 => ?_) (fun e5 => ?_)
    · refine z_tabIn 9 60 rfl e5 ct_0 (by decide) (by decide) rfl (by decide) ?_
      refine z_aload0 10 61 rfl rfl ?_
      refine z_aload0 11 62 rfl rfl ?_
      refine z_getR 12 65 3 rfl rfl zf_X10_29 rfl h0 ?_
      refine z_ck (fun h6 => ?_)
      refine z_getR 13 68 0 rfl rfl zf_X10_165 rfl h6 ?_
      refine z_iload1 14 69 rfl rfl ?_
      refine z_iald 15 70 rfl rfl ?_
      refine z_cV1I 16 73 rfl rfl zl_X10_121 F_X10_grant (zR_rm (by omega)) (c_X10_grant X d a0 (σ2.1 (σ2.2 (σ2.2 a0 3) 0) x1.toNatClampNeg) σ2) ⟨by decide, rfl, rfl⟩ h0 rfl (Nat.le_of_ble_eq_true rfl) (fun r7 σ8 => ?_)
      exact z_iret 17 rfl rfl
    refine z_br (fun e9 => ?_) (fun e9 => ?_)
    · refine z_tabIn 9 74 rfl e9 ct_1 (by decide) (by decide) rfl (by decide) ?_
      refine z_aload0 18 75 rfl rfl ?_
      refine z_aload0 19 76 rfl rfl ?_
      refine z_getR 20 79 3 rfl rfl zf_X10_29 rfl h0 ?_
      refine z_ck (fun h10 => ?_)
      refine z_getR 21 82 1 rfl rfl zf_X10_168 rfl h10 ?_
      refine z_iload1 22 83 rfl rfl ?_
      refine z_iald 23 84 rfl rfl ?_
      refine z_cV1I 24 87 rfl rfl zl_X10_121 F_X10_grant (zR_rm (by omega)) (c_X10_grant X d a0 (σ2.1 (σ2.2 (σ2.2 a0 3) 1) x1.toNatClampNeg) σ2) ⟨by decide, rfl, rfl⟩ h0 rfl (Nat.le_of_ble_eq_true rfl) (fun r11 σ12 => ?_)
      exact z_iret 25 rfl rfl
    refine z_br (fun e13 => ?_) (fun e13 => ?_)
    · refine z_tabIn 9 88 rfl e13 ct_2 (by decide) (by decide) rfl (by decide) ?_
      refine z_aload0 26 89 rfl rfl ?_
      refine z_aload0 27 90 rfl rfl ?_
      refine z_getR 28 93 3 rfl rfl zf_X10_29 rfl h0 ?_
      refine z_ck (fun h14 => ?_)
      refine z_getR 29 96 2 rfl rfl zf_X10_171 rfl h14 ?_
      refine z_iload1 30 97 rfl rfl ?_
      refine z_iald 31 98 rfl rfl ?_
      refine z_cV1I 32 101 rfl rfl zl_X10_121 F_X10_grant (zR_rm (by omega)) (c_X10_grant X d a0 (σ2.1 (σ2.2 (σ2.2 a0 3) 2) x1.toNatClampNeg) σ2) ⟨by decide, rfl, rfl⟩ h0 rfl (Nat.le_of_ble_eq_true rfl) (fun r15 σ16 => ?_)
      exact z_iret 33 rfl rfl
    refine z_br (fun e17 => ?_) (fun e17 => ?_)
    · refine z_tabIn 9 102 rfl e17 ct_3 (by decide) (by decide) rfl (by decide) ?_
      refine z_aload0 34 103 rfl rfl ?_
      refine z_aload0 35 104 rfl rfl ?_
      refine z_getR 36 107 3 rfl rfl zf_X10_29 rfl h0 ?_
      refine z_ck (fun h18 => ?_)
      refine z_getR 37 110 3 rfl rfl zf_X10_174 rfl h18 ?_
      refine z_iload1 38 111 rfl rfl ?_
      refine z_iald 39 112 rfl rfl ?_
      refine z_cV1I 40 115 rfl rfl zl_X10_121 F_X10_grant (zR_rm (by omega)) (c_X10_grant X d a0 (σ2.1 (σ2.2 (σ2.2 a0 3) 3) x1.toNatClampNeg) σ2) ⟨by decide, rfl, rfl⟩ h0 rfl (Nat.le_of_ble_eq_true rfl) (fun r19 σ20 => ?_)
      exact z_iret 41 rfl rfl
    refine z_br (fun e21 => ?_) (fun e21 => ?_)
    · refine z_tabIn 9 116 rfl e21 ct_4 (by decide) (by decide) rfl (by decide) ?_
      refine z_aload0 42 117 rfl rfl ?_
      refine z_aload0 43 118 rfl rfl ?_
      refine z_getR 44 121 3 rfl rfl zf_X10_29 rfl h0 ?_
      refine z_ck (fun h22 => ?_)
      refine z_getR 45 124 4 rfl rfl zf_X10_177 rfl h22 ?_
      refine z_iload1 46 125 rfl rfl ?_
      refine z_iald 47 126 rfl rfl ?_
      refine z_cV1I 48 129 rfl rfl zl_X10_121 F_X10_grant (zR_rm (by omega)) (c_X10_grant X d a0 (σ2.1 (σ2.2 (σ2.2 a0 3) 4) x1.toNatClampNeg) σ2) ⟨by decide, rfl, rfl⟩ h0 rfl (Nat.le_of_ble_eq_true rfl) (fun r23 σ24 => ?_)
      exact z_iret 49 rfl rfl
    refine z_br (fun e25 => ?_) (fun e25 => ?_)
    · refine z_tabIn 9 130 rfl e25 ct_5 (by decide) (by decide) rfl (by decide) ?_
      refine z_aload0 50 131 rfl rfl ?_
      refine z_aload0 51 132 rfl rfl ?_
      refine z_getR 52 135 3 rfl rfl zf_X10_29 rfl h0 ?_
      refine z_ck (fun h26 => ?_)
      refine z_getI 53 138 6 rfl rfl zf_X10_178 rfl h26 ?_
      refine z_iload1 54 139 rfl rfl ?_
      refine z_ishr 55 140 rfl rfl ?_
      refine z_iconst 56 141 rfl rfl ci_1 ?_
      refine z_iand 57 142 rfl rfl ?_
      refine z_cV1I 58 145 rfl rfl zl_X10_121 F_X10_grant (zR_rm (by omega)) (c_X10_grant X d a0 (((σ2.1 (σ2.2 a0 3) 6) >>> (x1 &&& 31)) &&& (1 : Int32)) σ2) ⟨by decide, rfl, rfl⟩ h0 rfl (Nat.le_of_ble_eq_true rfl) (fun r27 σ28 => ?_)
      exact z_iret 59 rfl rfl
    refine z_br (fun e29 => ?_) (fun e29 => ?_)
    · refine z_tabIn 9 146 rfl e29 ct_6 (by decide) (by decide) rfl (by decide) ?_
      refine z_aload0 60 147 rfl rfl ?_
      refine z_aload0 61 148 rfl rfl ?_
      refine z_getR 62 151 3 rfl rfl zf_X10_29 rfl h0 ?_
      refine z_ck (fun h30 => ?_)
      refine z_cV0I 63 154 rfl rfl zl_X10_181 F_X6_read (zR_rm (by omega)) (c_X6_read X d (σ2.2 a0 3) σ2) ⟨by decide, rfl, rfl⟩ h30 rfl (Nat.le_of_ble_eq_true rfl) (fun r31 σ32 => ?_)
      refine z_iload1 64 155 rfl rfl ?_
      refine z_ishr 65 156 rfl rfl ?_
      refine z_iconst 66 157 rfl rfl ci_1 ?_
      refine z_iand 67 158 rfl rfl ?_
      refine z_cV1I 68 161 rfl rfl zl_X10_121 F_X10_grant (zR_rm (by omega)) (c_X10_grant X d a0 ((r31 >>> (x1 &&& 31)) &&& (1 : Int32)) σ32) ⟨by decide, rfl, rfl⟩ h0 rfl (Nat.le_of_ble_eq_true rfl) (fun r33 σ34 => ?_)
      exact z_iret 69 rfl rfl
    refine z_br (fun e35 => ?_) (fun e35 => ?_)
    · refine z_tabIn 9 162 rfl e35 ct_7 (by decide) (by decide) rfl (by decide) ?_
      refine z_aload0 70 163 rfl rfl ?_
      refine z_aload0 71 164 rfl rfl ?_
      refine z_iload1 72 165 rfl rfl ?_
      refine z_cV1I 73 168 rfl rfl zl_X10_185 F_X10_beaters (zR_rm (by omega)) (c_X10_beaters X d (by omega) a0 x1 σ2) ⟨by decide, rfl, rfl⟩ h0 rfl (Nat.le_of_ble_eq_true rfl) (fun r36 σ37 => ?_)
      refine z_cV1I 74 171 rfl rfl zl_X10_121 F_X10_grant (zR_rm (by omega)) (c_X10_grant X d a0 r36 σ37) ⟨by decide, rfl, rfl⟩ h0 rfl (Nat.le_of_ble_eq_true rfl) (fun r38 σ39 => ?_)
      exact z_iret 75 rfl rfl
    refine z_tabOut 9 172 rfl (z_out 8 (fun j hj => by rcases (show j = 0 ∨ j = 1 ∨ j = 2 ∨ j = 3 ∨ j = 4 ∨ j = 5 ∨ j = 6 ∨ j = 7 by omega) with rfl | rfl | rfl | rfl | rfl | rfl | rfl | rfl <;> assumption) (by decide) 7 (by decide)) (by decide) ?_
    refine z_aload0 76 173 rfl rfl ?_
    refine z_iconst 77 174 rfl rfl ci_1 ?_
    refine z_cV1I 78 177 rfl rfl zl_X10_82 F_X10_refuse (zR_rm (by omega)) (c_X10_refuse X d a0 (1 : Int32) σ2) ⟨by decide, rfl, rfl⟩ h0 rfl (Nat.le_of_ble_eq_true rfl) (fun r40 σ41 => ?_)
    exact z_iret 79 rfl rfl
def f_X10_isMatter (a0 : Nat) (x1 : Int32) (σ : zS) : Option (Int32 × zS) := zck (WC.2 a0 = (10, 0)) (zbr (x1 < 0) (zck (zb (0 : Int32)) (some ((0 : Int32), σ))) (zck (WC.2 (σ.2 a0 8) = (3, 0)) (zbr ((σ.1 (σ.2 a0 8) 13) ≤ x1) (zck (zb (0 : Int32)) (some ((0 : Int32), σ))) (zck (zb (1 : Int32)) (some ((1 : Int32), σ))))))
theorem c_X10_isMatter (X : zX) (d : Nat) (a0 : Nat) (x1 : Int32) (σ : zS) : ∀ (r : Int32) (σ' : zS), f_X10_isMatter a0 x1 σ = some (r, σ') → zCN X WC d M_X10_isMatter [.ref a0, .int x1] σ (zeI r, σ') := by
  refine z_entry [.ref a0, .int x1] (by decide +kernel) T_X10_isMatter (Nat.le_of_ble_eq_true rfl) ?_
  show zK X WC (zrm d) M_X10_isMatter (zZ X WC zeI) 0 [some (.ref a0), some (.int x1)] [] σ (f_X10_isMatter a0 x1 σ)
  unfold f_X10_isMatter
  refine z_ck (fun h0 => ?_)
  refine z_iload1 0 1 rfl rfl ?_
  refine z_if_lt 1 4 19 rfl rfl (by decide) ?_ ?_
  · refine z_iconst 9 20 rfl rfl ci_0 ?_
    exact z_zret 10 rfl rfl
  · refine z_iload1 2 5 rfl rfl ?_
    refine z_aload0 3 6 rfl rfl ?_
    refine z_getR 4 9 8 rfl rfl zf_X10_61 rfl h0 ?_
    refine z_ck (fun h1 => ?_)
    refine z_getI 5 12 13 rfl rfl zf_X10_202 rfl h1 ?_
    refine z_icmp_ge 6 15 19 rfl rfl (by decide) ?_ ?_
    · refine z_iconst 9 20 rfl rfl ci_0 ?_
      exact z_zret 10 rfl rfl
    · refine z_iconst 7 16 rfl rfl ci_1 ?_
      refine z_goto 8 20 rfl (by decide) ?_
      exact z_zret 10 rfl rfl
def f_X10_verdict (a0 : Nat) (x1 : Int32) (x2 : Int32) (σ : zS) : Option (Int32 × zS) := zck (WC.2 a0 = (10, 0)) (zck (WC.2 (σ.2 a0 3) = (6, 0)) (zbd (f_X6_placesOf (σ.2 a0 3) x1 x2 σ) (fun r2 σ3 => zck (WC.2 (σ3.2 a0 3) = (6, 0)) (zbd (f_X6_dosOf (σ3.2 a0 3) x1 x2 σ3) (fun r5 σ6 => zck (WC.2 (σ.2 a0 1) = (5, 0)) (zbd (f_X5_outcome (σ.2 a0 1) r2 r5 σ6) (fun r8 σ9 => some (r8, σ9))))))))
theorem c_X10_verdict (X : zX) (d : Nat) (hd : 2 ≤ d) (a0 : Nat) (x1 : Int32) (x2 : Int32) (σ : zS) : ∀ (r : Int32) (σ' : zS), f_X10_verdict a0 x1 x2 σ = some (r, σ') → zCN X WC d M_X10_verdict [.ref a0, .int x1, .int x2] σ (zeI r, σ') := by
  obtain ⟨d, rfl⟩ : ∃ e, d = e + 1 := ⟨d - 1, by omega⟩
  refine z_entry [.ref a0, .int x1, .int x2] (by decide +kernel) T_X10_verdict (Nat.le_of_ble_eq_true rfl) ?_
  show zK X WC (zrm (d + 1)) M_X10_verdict (zZ X WC zeI) 0 [some (.ref a0), some (.int x1), some (.int x2)] [] σ (f_X10_verdict a0 x1 x2 σ)
  unfold f_X10_verdict
  refine z_ck (fun h0 => ?_)
  refine z_aload0 0 1 rfl rfl ?_
  refine z_getR 1 4 1 rfl rfl zf_X10_19 rfl h0 ?_
  refine z_aload0 2 5 rfl rfl ?_
  refine z_getR 3 8 3 rfl rfl zf_X10_29 rfl h0 ?_
  refine z_iload1 4 9 rfl rfl ?_
  refine z_iload2 5 10 rfl rfl ?_
  refine z_ck (fun h1 => ?_)
  refine z_cV2I 6 13 rfl rfl zl_X10_223 F_X6_placesOf (zR_rm (by omega)) (c_X6_placesOf X d (σ.2 a0 3) x1 x2 σ) ⟨by decide, rfl, rfl⟩ h1 rfl (Nat.le_of_ble_eq_true rfl) (fun r2 σ3 => ?_)
  refine z_aload0 7 14 rfl rfl ?_
  refine z_getR 8 17 3 rfl rfl zf_X10_29 rfl h0 ?_
  refine z_iload1 9 18 rfl rfl ?_
  refine z_iload2 10 19 rfl rfl ?_
  refine z_ck (fun h4 => ?_)
  refine z_cV2I 11 22 rfl rfl zl_X10_232 F_X6_dosOf (zR_rm (by omega)) (c_X6_dosOf X d (σ3.2 a0 3) x1 x2 σ3) ⟨by decide, rfl, rfl⟩ h4 rfl (Nat.le_of_ble_eq_true rfl) (fun r5 σ6 => ?_)
  refine z_ck (fun h7 => ?_)
  refine z_cV2I 12 25 rfl rfl zl_X10_235 F_X5_outcome (zR_rm (by omega)) (c_X5_outcome X d (by omega) (σ.2 a0 1) r2 r5 σ6) ⟨by decide, rfl, rfl⟩ h7 rfl (Nat.le_of_ble_eq_true rfl) (fun r8 σ9 => ?_)
  exact z_iret 13 rfl rfl
def f_X10_done (a0 : Nat) (x1 : Int32) (σ : zS) : Option (Int32 × zS) := zck (WC.2 a0 = (10, 0)) (zbd (f_X10_isMatter a0 x1 σ) (fun r1 σ2 => zbr (r1 = 0) (zbd (f_X10_refuse a0 (1 : Int32) σ2) (fun r3 σ4 => some (r3, σ4))) (zck (WC.2 (σ2.2 a0 3) = (6, 0)) (zbd (f_X6_read (σ2.2 a0 3) σ2) (fun r6 σ7 => zbd (f_X10_verdict a0 x1 r6 σ7) (fun r8 σ9 => zbd (f_X10_grant a0 r8 σ9) (fun r10 σ11 => some (r10, σ11))))))))
theorem c_X10_done (X : zX) (d : Nat) (hd : 3 ≤ d) (a0 : Nat) (x1 : Int32) (σ : zS) : ∀ (r : Int32) (σ' : zS), f_X10_done a0 x1 σ = some (r, σ') → zCN X WC d M_X10_done [.ref a0, .int x1] σ (zeI r, σ') := by
  obtain ⟨d, rfl⟩ : ∃ e, d = e + 1 := ⟨d - 1, by omega⟩
  refine z_entry [.ref a0, .int x1] (by decide +kernel) T_X10_done (Nat.le_of_ble_eq_true rfl) ?_
  show zK X WC (zrm (d + 1)) M_X10_done (zZ X WC zeI) 0 [some (.ref a0), some (.int x1)] [] σ (f_X10_done a0 x1 σ)
  unfold f_X10_done
  refine z_ck (fun h0 => ?_)
  refine z_aload0 0 1 rfl rfl ?_
  refine z_iload1 1 2 rfl rfl ?_
  refine z_cV1I 2 5 rfl rfl zl_X10_188 F_X10_isMatter (zR_rm (by omega)) (c_X10_isMatter X d a0 x1 σ) ⟨by decide, rfl, rfl⟩ h0 rfl (Nat.le_of_ble_eq_true rfl) (fun r1 σ2 => ?_)
  refine z_if_eq 3 8 27 rfl rfl (by decide) ?_ ?_
  · refine z_aload0 13 28 rfl rfl ?_
    refine z_iconst 14 29 rfl rfl ci_1 ?_
    refine z_cV1I 15 32 rfl rfl zl_X10_82 F_X10_refuse (zR_rm (by omega)) (c_X10_refuse X d a0 (1 : Int32) σ2) ⟨by decide, rfl, rfl⟩ h0 rfl (Nat.le_of_ble_eq_true rfl) (fun r3 σ4 => ?_)
    exact z_iret 16 rfl rfl
  · refine z_aload0 4 9 rfl rfl ?_
    refine z_aload0 5 10 rfl rfl ?_
    refine z_iload1 6 11 rfl rfl ?_
    refine z_aload0 7 12 rfl rfl ?_
    refine z_getR 8 15 3 rfl rfl zf_X10_29 rfl h0 ?_
    refine z_ck (fun h5 => ?_)
    refine z_cV0I 9 18 rfl rfl zl_X10_181 F_X6_read (zR_rm (by omega)) (c_X6_read X d (σ2.2 a0 3) σ2) ⟨by decide, rfl, rfl⟩ h5 rfl (Nat.le_of_ble_eq_true rfl) (fun r6 σ7 => ?_)
    refine z_cV2I 10 21 rfl rfl zl_X10_191 F_X10_verdict (zR_rm (by omega)) (c_X10_verdict X d (by omega) a0 x1 r6 σ7) ⟨by decide, rfl, rfl⟩ h0 rfl (Nat.le_of_ble_eq_true rfl) (fun r8 σ9 => ?_)
    refine z_cV1I 11 24 rfl rfl zl_X10_121 F_X10_grant (zR_rm (by omega)) (c_X10_grant X d a0 r8 σ9) ⟨by decide, rfl, rfl⟩ h0 rfl (Nat.le_of_ble_eq_true rfl) (fun r10 σ11 => ?_)
    refine z_goto 12 32 rfl (by decide) ?_
    exact z_iret 16 rfl rfl
def f_X10_stands (a0 : Nat) (x1 : Int32) (σ : zS) : Option (Int32 × zS) := zck (WC.2 a0 = (10, 0)) (zbd (f_X10_isMatter a0 x1 σ) (fun r1 σ2 => zbr (r1 = 0) (zbd (f_X10_refuse a0 (1 : Int32) σ2) (fun r3 σ4 => some (r3, σ4))) (zck (WC.2 (σ2.2 a0 3) = (6, 0)) (zbd (f_X6_read (σ2.2 a0 3) σ2) (fun r6 σ7 => zbd (f_X10_standing a0 x1 r6 σ7) (fun r8 σ9 => zbd (f_X10_grant a0 r8 σ9) (fun r10 σ11 => some (r10, σ11))))))))
theorem c_X10_stands (X : zX) (d : Nat) (hd : 2 ≤ d) (a0 : Nat) (x1 : Int32) (σ : zS) : ∀ (r : Int32) (σ' : zS), f_X10_stands a0 x1 σ = some (r, σ') → zCN X WC d M_X10_stands [.ref a0, .int x1] σ (zeI r, σ') := by
  obtain ⟨d, rfl⟩ : ∃ e, d = e + 1 := ⟨d - 1, by omega⟩
  refine z_entry [.ref a0, .int x1] (by decide +kernel) T_X10_stands (Nat.le_of_ble_eq_true rfl) ?_
  show zK X WC (zrm (d + 1)) M_X10_stands (zZ X WC zeI) 0 [some (.ref a0), some (.int x1)] [] σ (f_X10_stands a0 x1 σ)
  unfold f_X10_stands
  refine z_ck (fun h0 => ?_)
  refine z_aload0 0 1 rfl rfl ?_
  refine z_iload1 1 2 rfl rfl ?_
  refine z_cV1I 2 5 rfl rfl zl_X10_188 F_X10_isMatter (zR_rm (by omega)) (c_X10_isMatter X d a0 x1 σ) ⟨by decide, rfl, rfl⟩ h0 rfl (Nat.le_of_ble_eq_true rfl) (fun r1 σ2 => ?_)
  refine z_if_eq 3 8 27 rfl rfl (by decide) ?_ ?_
  · refine z_aload0 13 28 rfl rfl ?_
    refine z_iconst 14 29 rfl rfl ci_1 ?_
    refine z_cV1I 15 32 rfl rfl zl_X10_82 F_X10_refuse (zR_rm (by omega)) (c_X10_refuse X d a0 (1 : Int32) σ2) ⟨by decide, rfl, rfl⟩ h0 rfl (Nat.le_of_ble_eq_true rfl) (fun r3 σ4 => ?_)
    exact z_iret 16 rfl rfl
  · refine z_aload0 4 9 rfl rfl ?_
    refine z_aload0 5 10 rfl rfl ?_
    refine z_iload1 6 11 rfl rfl ?_
    refine z_aload0 7 12 rfl rfl ?_
    refine z_getR 8 15 3 rfl rfl zf_X10_29 rfl h0 ?_
    refine z_ck (fun h5 => ?_)
    refine z_cV0I 9 18 rfl rfl zl_X10_181 F_X6_read (zR_rm (by omega)) (c_X6_read X d (σ2.2 a0 3) σ2) ⟨by decide, rfl, rfl⟩ h5 rfl (Nat.le_of_ble_eq_true rfl) (fun r6 σ7 => ?_)
    refine z_cV2I 10 21 rfl rfl zl_X10_195 F_X10_standing (zR_rm (by omega)) (c_X10_standing X d (by omega) a0 x1 r6 σ7) ⟨by decide, rfl, rfl⟩ h0 rfl (Nat.le_of_ble_eq_true rfl) (fun r8 σ9 => ?_)
    refine z_cV1I 11 24 rfl rfl zl_X10_121 F_X10_grant (zR_rm (by omega)) (c_X10_grant X d a0 r8 σ9) ⟨by decide, rfl, rfl⟩ h0 rfl (Nat.le_of_ble_eq_true rfl) (fun r10 σ11 => ?_)
    refine z_goto 12 32 rfl (by decide) ?_
    exact z_iret 16 rfl rfl
def f_X10_noLetter (a0 : Nat) (σ : zS) : Option (Int32 × zS) := zck (WC.2 a0 = (10, 0)) (zck (WC.2 (σ.2 a0 8) = (3, 0)) (zbr ((σ.1 (σ.2 a0 8) 10) = 0) (zck (zb (1 : Int32)) (some ((1 : Int32), σ))) (zck (zb (0 : Int32)) (some ((0 : Int32), σ)))))
theorem c_X10_noLetter (X : zX) (d : Nat) (a0 : Nat) (σ : zS) : ∀ (r : Int32) (σ' : zS), f_X10_noLetter a0 σ = some (r, σ') → zCN X WC d M_X10_noLetter [.ref a0] σ (zeI r, σ') := by
  refine z_entry [.ref a0] (by decide +kernel) T_X10_noLetter (Nat.le_of_ble_eq_true rfl) ?_
  show zK X WC (zrm d) M_X10_noLetter (zZ X WC zeI) 0 [some (.ref a0)] [] σ (f_X10_noLetter a0 σ)
  unfold f_X10_noLetter
  refine z_ck (fun h0 => ?_)
  refine z_aload0 0 1 rfl rfl ?_
  refine z_getR 1 4 8 rfl rfl zf_X10_61 rfl h0 ?_
  refine z_ck (fun h1 => ?_)
  refine z_getI 2 7 10 rfl rfl zf_X10_118 rfl h1 ?_
  refine z_if_ne 3 10 14 rfl rfl (by decide) ?_ ?_
  · refine z_iconst 4 11 rfl rfl ci_1 ?_
    refine z_goto 5 15 rfl (by decide) ?_
    exact z_zret 7 rfl rfl
  · refine z_iconst 6 15 rfl rfl ci_0 ?_
    exact z_zret 7 rfl rfl
def f_X10_allDone_52 (a0 : Nat) (H25 : Int32 → Int32 → Int32 → zS → Option (Int32 × zS)) (x1 : Int32) (x2 : Int32) (x3 : Int32) (σ : zS) : Option (Int32 × zS) := zlt (x3 + (1 : Int32)) (fun v1 => H25 x1 x2 v1 σ)
theorem t_X10_allDone_52 (X : zX) (d : Nat) (hd : 3 ≤ d + 1) (a0 : Nat) (h0 : WC.2 a0 = (10, 0)) (H25 : Int32 → Int32 → Int32 → zS → Option (Int32 × zS)) (hH25 : ∀ (x1 : Int32) (x2 : Int32) (x3 : Int32) (σ : zS), zK X WC (zrm (d + 1)) M_X10_allDone (zZ X WC zeI) 25 [some (.ref a0), some (.int x1), some (.int x2), some (.int x3)] [] σ (H25 x1 x2 x3 σ)) (x1 : Int32) (x2 : Int32) (x3 : Int32) (σ : zS) : zK X WC (zrm (d + 1)) M_X10_allDone (zZ X WC zeI) 52 [some (.ref a0), some (.int x1), some (.int x2), some (.int x3)] [] σ (f_X10_allDone_52 a0 H25 x1 x2 x3 σ) := by
  unfold f_X10_allDone_52
  refine z_iinc3 32 55 rfl rfl ci_1 rfl (fun v1 => ?_)
  refine z_goto 33 25 rfl (by decide) ?_
  exact hH25 x1 x2 v1 σ
def f_X10_allDone_25 (a0 : Nat) : Nat → Int32 → Int32 → Int32 → zS → Option (Int32 × zS)
  | 0, _, _, _, _ => none
  | n + 1, x1, x2, x3, σ => zck (WC.2 (σ.2 a0 8) = (3, 0)) (zbr ((σ.1 (σ.2 a0 8) 13) ≤ x3) (zbd (f_X10_grant a0 x2 σ) (fun r3 σ4 => some (r3, σ4))) (zbd (f_X10_verdict a0 x3 x1 σ) (fun r5 σ6 => zbr (r5 = (1 : Int32)) (zlt (x2 ||| ((1 : Int32) <<< (x3 &&& 31))) (fun v7 => f_X10_allDone_52 a0 (f_X10_allDone_25 a0 n) x1 v7 x3 σ6)) (f_X10_allDone_52 a0 (f_X10_allDone_25 a0 n) x1 x2 x3 σ6))))
theorem t_X10_allDone_25 (X : zX) (d : Nat) (hd : 3 ≤ d + 1) (a0 : Nat) (h0 : WC.2 a0 = (10, 0)) : ∀ (n : Nat) (x1 : Int32) (x2 : Int32) (x3 : Int32) (σ : zS), zK X WC (zrm (d + 1)) M_X10_allDone (zZ X WC zeI) 25 [some (.ref a0), some (.int x1), some (.int x2), some (.int x3)] [] σ (f_X10_allDone_25 a0 n x1 x2 x3 σ) := by
  intro n
  induction n with
  | zero => intro x1 x2 x3 σ; exact z_none
  | succ n ih =>
    intro x1 x2 x3 σ
    rw [f_X10_allDone_25]
    refine z_iload3 15 26 rfl rfl ?_
    refine z_aload0 16 27 rfl rfl ?_
    refine z_getR 17 30 8 rfl rfl zf_X10_61 rfl h0 ?_
    refine z_ck (fun h2 => ?_)
    refine z_getI 18 33 13 rfl rfl zf_X10_202 rfl h2 ?_
    refine z_icmp_ge 19 36 58 rfl rfl (by decide) ?_ ?_
    · refine z_aload0 34 59 rfl rfl ?_
      refine z_iload2 35 60 rfl rfl ?_
      refine z_cV1I 36 63 rfl rfl zl_X10_121 F_X10_grant (zR_rm (by omega)) (c_X10_grant X d a0 x2 σ) ⟨by decide, rfl, rfl⟩ h0 rfl (Nat.le_of_ble_eq_true rfl) (fun r3 σ4 => ?_)
      exact z_iret 37 rfl rfl
    · refine z_aload0 20 37 rfl rfl ?_
      refine z_iload3 21 38 rfl rfl ?_
      refine z_iload1 22 39 rfl rfl ?_
      refine z_cV2I 23 42 rfl rfl zl_X10_191 F_X10_verdict (zR_rm (by omega)) (c_X10_verdict X d (by omega) a0 x3 x1 σ) ⟨by decide, rfl, rfl⟩ h0 rfl (Nat.le_of_ble_eq_true rfl) (fun r5 σ6 => ?_)
      refine z_iconst 24 43 rfl rfl ci_1 ?_
      refine z_icmp_ne 25 46 52 rfl rfl (by decide) ?_ ?_
      · refine z_iload2 26 47 rfl rfl ?_
        refine z_iconst 27 48 rfl rfl ci_1 ?_
        refine z_iload3 28 49 rfl rfl ?_
        refine z_ishl 29 50 rfl rfl ?_
        refine z_ior 30 51 rfl rfl ?_
        refine z_istore2 31 52 rfl rfl rfl (fun v7 => ?_)
        exact t_X10_allDone_52 X d hd a0 h0 (f_X10_allDone_25 a0 n) ih x1 v7 x3 σ6
      · exact t_X10_allDone_52 X d hd a0 h0 (f_X10_allDone_25 a0 n) ih x1 x2 x3 σ6
def f_X10_allDone (a0 : Nat) (σ : zS) : Option (Int32 × zS) := zck (WC.2 a0 = (10, 0)) (zbd (f_X10_noLetter a0 σ) (fun r8 σ9 => zbr (r8 = 0) (zck (WC.2 (σ9.2 a0 3) = (6, 0)) (zbd (f_X6_read (σ9.2 a0 3) σ9) (fun r11 σ12 => zlt r11 (fun v13 => zlt (0 : Int32) (fun v14 => zlt (0 : Int32) (fun v15 => f_X10_allDone_25 a0 FU v13 v14 v15 σ12)))))) (zbd (f_X10_refuse a0 (1 : Int32) σ9) (fun r16 σ17 => some (r16, σ17)))))
theorem c_X10_allDone (X : zX) (d : Nat) (hd : 3 ≤ d) (a0 : Nat) (σ : zS) : ∀ (r : Int32) (σ' : zS), f_X10_allDone a0 σ = some (r, σ') → zCN X WC d M_X10_allDone [.ref a0] σ (zeI r, σ') := by
  obtain ⟨d, rfl⟩ : ∃ e, d = e + 1 := ⟨d - 1, by omega⟩
  refine z_entry [.ref a0] (by decide +kernel) T_X10_allDone (Nat.le_of_ble_eq_true rfl) ?_
  show zK X WC (zrm (d + 1)) M_X10_allDone (zZ X WC zeI) 0 [some (.ref a0), none, none, none] [] σ (f_X10_allDone a0 σ)
  unfold f_X10_allDone
  refine z_ck (fun h0 => ?_)
  refine z_aload0 0 1 rfl rfl ?_
  refine z_cV0I 1 4 rfl rfl zl_X10_198 F_X10_noLetter (zR_rm (by omega)) (c_X10_noLetter X d a0 σ) ⟨by decide, rfl, rfl⟩ h0 rfl (Nat.le_of_ble_eq_true rfl) (fun r8 σ9 => ?_)
  refine z_if_eq 2 7 13 rfl rfl (by decide) ?_ ?_
  · refine z_aload0 7 14 rfl rfl ?_
    refine z_getR 8 17 3 rfl rfl zf_X10_29 rfl h0 ?_
    refine z_ck (fun h10 => ?_)
    refine z_cV0I 9 20 rfl rfl zl_X10_181 F_X6_read (zR_rm (by omega)) (c_X6_read X d (σ9.2 a0 3) σ9) ⟨by decide, rfl, rfl⟩ h10 rfl (Nat.le_of_ble_eq_true rfl) (fun r11 σ12 => ?_)
    refine z_istore1 10 21 rfl rfl rfl (fun v13 => ?_)
    refine z_iconst 11 22 rfl rfl ci_0 ?_
    refine z_istore2 12 23 rfl rfl rfl (fun v14 => ?_)
    refine z_iconst 13 24 rfl rfl ci_0 ?_
    refine z_istore3 14 25 rfl rfl rfl (fun v15 => ?_)
    exact t_X10_allDone_25 X d hd a0 h0  FU v13 v14 v15 σ12
  · refine z_aload0 3 8 rfl rfl ?_
    refine z_iconst 4 9 rfl rfl ci_1 ?_
    refine z_cV1I 5 12 rfl rfl zl_X10_82 F_X10_refuse (zR_rm (by omega)) (c_X10_refuse X d a0 (1 : Int32) σ9) ⟨by decide, rfl, rfl⟩ h0 rfl (Nat.le_of_ble_eq_true rfl) (fun r16 σ17 => ?_)
    exact z_iret 6 rfl rfl
def f_X10_ruler_52 (a0 : Nat) (H20 : Int32 → Int32 → Int32 → zS → Option (Int32 × zS)) (x1 : Int32) (x2 : Int32) (x3 : Int32) (σ : zS) : Option (Int32 × zS) := zlt (x3 + (1 : Int32)) (fun v1 => H20 x1 x2 v1 σ)
theorem t_X10_ruler_52 (X : zX) (d : Nat) (hd : 3 ≤ d + 1) (a0 : Nat) (h0 : WC.2 a0 = (10, 0)) (H20 : Int32 → Int32 → Int32 → zS → Option (Int32 × zS)) (hH20 : ∀ (x1 : Int32) (x2 : Int32) (x3 : Int32) (σ : zS), zK X WC (zrm (d + 1)) M_X10_ruler (zZ X WC zeI) 20 [some (.ref a0), some (.int x1), some (.int x2), some (.int x3), none] [] σ (H20 x1 x2 x3 σ)) (x1 : Int32) (x2 : Int32) (x3 : Int32) (σ : zS) : zK X WC (zrm (d + 1)) M_X10_ruler (zZ X WC zeI) 52 [some (.ref a0), some (.int x1), some (.int x2), some (.int x3), none] [] σ (f_X10_ruler_52 a0 H20 x1 x2 x3 σ) := by
  unfold f_X10_ruler_52
  refine z_iinc3 30 55 rfl rfl ci_1 rfl (fun v1 => ?_)
  refine z_goto 31 20 rfl (by decide) ?_
  exact hH20 x1 x2 v1 σ
def f_X10_ruler_20 (a0 : Nat) : Nat → Int32 → Int32 → Int32 → zS → Option (Int32 × zS)
  | 0, _, _, _, _ => none
  | n + 1, x1, x2, x3, σ => zck (WC.2 (σ.2 a0 8) = (3, 0)) (zbr ((σ.1 (σ.2 a0 8) 12) ≤ x3) (zbd (f_X10_grant a0 x1 σ) (fun r3 σ4 => some (r3, σ4))) (zbd (f_X10_ruledBy a0 x3 σ) (fun r5 σ6 => zbd (f_J6_bitCount WC r5 σ6) (fun r7 σ8 => zlt r7 (fun v9 => zbr (v9 ≤ x2) (f_X10_ruler_52 a0 (f_X10_ruler_20 a0 n) x1 x2 x3 σ8) (zlt v9 (fun v10 => zlt x3 (fun v11 => f_X10_ruler_52 a0 (f_X10_ruler_20 a0 n) v11 v10 x3 σ8))))))))
theorem t_X10_ruler_20 (X : zX) (d : Nat) (hd : 3 ≤ d + 1) (a0 : Nat) (h0 : WC.2 a0 = (10, 0)) : ∀ (n : Nat) (x1 : Int32) (x2 : Int32) (x3 : Int32) (σ : zS), zK X WC (zrm (d + 1)) M_X10_ruler (zZ X WC zeI) 20 [some (.ref a0), some (.int x1), some (.int x2), some (.int x3), none] [] σ (f_X10_ruler_20 a0 n x1 x2 x3 σ) := by
  intro n
  induction n with
  | zero => intro x1 x2 x3 σ; exact z_none
  | succ n ih =>
    intro x1 x2 x3 σ
    rw [f_X10_ruler_20]
    refine z_iload3 13 21 rfl rfl ?_
    refine z_aload0 14 22 rfl rfl ?_
    refine z_getR 15 25 8 rfl rfl zf_X10_61 rfl h0 ?_
    refine z_ck (fun h2 => ?_)
    refine z_getI 16 28 12 rfl rfl zf_X10_205 rfl h2 ?_
    refine z_icmp_ge 17 31 58 rfl rfl (by decide) ?_ ?_
    · refine z_aload0 32 59 rfl rfl ?_
      refine z_iload1 33 60 rfl rfl ?_
      refine z_cV1I 34 63 rfl rfl zl_X10_121 F_X10_grant (zR_rm (by omega)) (c_X10_grant X d a0 x1 σ) ⟨by decide, rfl, rfl⟩ h0 rfl (Nat.le_of_ble_eq_true rfl) (fun r3 σ4 => ?_)
      exact z_iret 35 rfl rfl
    · refine z_aload0 18 32 rfl rfl ?_
      refine z_iload3 19 33 rfl rfl ?_
      refine z_cV1I 20 36 rfl rfl zl_X10_159 F_X10_ruledBy (zR_rm (by omega)) (c_X10_ruledBy X d (by omega) a0 x3 σ) ⟨by decide, rfl, rfl⟩ h0 rfl (Nat.le_of_ble_eq_true rfl) (fun r5 σ6 => ?_)
      refine z_cS1I 21 39 rfl rfl zl_X10_208 F_J6_bitCount (zR_rm (by omega)) (c_J6_bitCount X WC d r5 σ6) rfl (Nat.le_of_ble_eq_true rfl) (fun r7 σ8 => ?_)
      refine z_istore4 22 41 rfl rfl rfl (fun v9 => ?_)
      refine z_iload4 23 43 rfl rfl ?_
      refine z_iload2 24 44 rfl rfl ?_
      refine z_icmp_le 25 47 52 rfl rfl (by decide) ?_ ?_
      · exact z_wk (zle_e (zle_e (zle_e (zle_e (zle_n zle_0))))) (t_X10_ruler_52 X d hd a0 h0 (f_X10_ruler_20 a0 n) ih x1 x2 x3 σ8)
      · refine z_iload4 26 49 rfl rfl ?_
        refine z_istore2 27 50 rfl rfl rfl (fun v10 => ?_)
        refine z_iload3 28 51 rfl rfl ?_
        refine z_istore1 29 52 rfl rfl rfl (fun v11 => ?_)
        exact z_wk (zle_e (zle_e (zle_e (zle_e (zle_n zle_0))))) (t_X10_ruler_52 X d hd a0 h0 (f_X10_ruler_20 a0 n) ih v11 v10 x3 σ8)
def f_X10_ruler (a0 : Nat) (σ : zS) : Option (Int32 × zS) := zck (WC.2 a0 = (10, 0)) (zbd (f_X10_noLetter a0 σ) (fun r12 σ13 => zbr (r12 = 0) (zlt (-2 : Int32) (fun v14 => zlt (0 : Int32) (fun v15 => zlt (0 : Int32) (fun v16 => f_X10_ruler_20 a0 FU v14 v15 v16 σ13)))) (zbd (f_X10_refuse a0 (1 : Int32) σ13) (fun r17 σ18 => some (r17, σ18)))))
theorem c_X10_ruler (X : zX) (d : Nat) (hd : 3 ≤ d) (a0 : Nat) (σ : zS) : ∀ (r : Int32) (σ' : zS), f_X10_ruler a0 σ = some (r, σ') → zCN X WC d M_X10_ruler [.ref a0] σ (zeI r, σ') := by
  obtain ⟨d, rfl⟩ : ∃ e, d = e + 1 := ⟨d - 1, by omega⟩
  refine z_entry [.ref a0] (by decide +kernel) T_X10_ruler (Nat.le_of_ble_eq_true rfl) ?_
  show zK X WC (zrm (d + 1)) M_X10_ruler (zZ X WC zeI) 0 [some (.ref a0), none, none, none, none] [] σ (f_X10_ruler a0 σ)
  unfold f_X10_ruler
  refine z_ck (fun h0 => ?_)
  refine z_aload0 0 1 rfl rfl ?_
  refine z_cV0I 1 4 rfl rfl zl_X10_198 F_X10_noLetter (zR_rm (by omega)) (c_X10_noLetter X d a0 σ) ⟨by decide, rfl, rfl⟩ h0 rfl (Nat.le_of_ble_eq_true rfl) (fun r12 σ13 => ?_)
  refine z_if_eq 2 7 13 rfl rfl (by decide) ?_ ?_
  · refine z_bipush 7 15 rfl rfl cb_m2 ?_
    refine z_istore1 8 16 rfl rfl rfl (fun v14 => ?_)
    refine z_iconst 9 17 rfl rfl ci_0 ?_
    refine z_istore2 10 18 rfl rfl rfl (fun v15 => ?_)
    refine z_iconst 11 19 rfl rfl ci_0 ?_
    refine z_istore3 12 20 rfl rfl rfl (fun v16 => ?_)
    exact t_X10_ruler_20 X d hd a0 h0  FU v14 v15 v16 σ13
  · refine z_aload0 3 8 rfl rfl ?_
    refine z_iconst 4 9 rfl rfl ci_1 ?_
    refine z_cV1I 5 12 rfl rfl zl_X10_82 F_X10_refuse (zR_rm (by omega)) (c_X10_refuse X d a0 (1 : Int32) σ13) ⟨by decide, rfl, rfl⟩ h0 rfl (Nat.le_of_ble_eq_true rfl) (fun r17 σ18 => ?_)
    exact z_iret 6 rfl rfl
def f_X10_turnedWithout_49 (a0 : Nat) (H13 : Int32 → Int32 → Int32 → Int32 → zS → Option (Int32 × zS)) (x1 : Int32) (x2 : Int32) (x3 : Int32) (x4 : Int32) (σ : zS) : Option (Int32 × zS) := zlt (x4 + (1 : Int32)) (fun v1 => H13 x1 x2 x3 v1 σ)
theorem t_X10_turnedWithout_49 (X : zX) (d : Nat) (hd : 3 ≤ d + 1) (a0 : Nat) (h0 : WC.2 a0 = (10, 0)) (H13 : Int32 → Int32 → Int32 → Int32 → zS → Option (Int32 × zS)) (hH13 : ∀ (x1 : Int32) (x2 : Int32) (x3 : Int32) (x4 : Int32) (σ : zS), zK X WC (zrm (d + 1)) M_X10_turnedWithout (zZ X WC zeI) 13 [some (.ref a0), some (.int x1), some (.int x2), some (.int x3), some (.int x4)] [] σ (H13 x1 x2 x3 x4 σ)) (x1 : Int32) (x2 : Int32) (x3 : Int32) (x4 : Int32) (σ : zS) : zK X WC (zrm (d + 1)) M_X10_turnedWithout (zZ X WC zeI) 49 [some (.ref a0), some (.int x1), some (.int x2), some (.int x3), some (.int x4)] [] σ (f_X10_turnedWithout_49 a0 H13 x1 x2 x3 x4 σ) := by
  unfold f_X10_turnedWithout_49
  refine z_iinc4 27 52 rfl rfl ci_1 rfl (fun v1 => ?_)
  refine z_goto 28 13 rfl (by decide) ?_
  exact hH13 x1 x2 x3 v1 σ
def f_X10_turnedWithout_13 (a0 : Nat) : Nat → Int32 → Int32 → Int32 → Int32 → zS → Option (Int32 × zS)
  | 0, _, _, _, _, _ => none
  | n + 1, x1, x2, x3, x4, σ => zck (WC.2 (σ.2 a0 8) = (3, 0)) (zbr ((σ.1 (σ.2 a0 8) 13) ≤ x4) (some (x3, σ)) (zbd (f_X10_verdict a0 x4 (x2 &&& (x1 ^^^ (-1 : Int32))) σ) (fun r3 σ4 => zbd (f_X10_verdict a0 x4 x2 σ4) (fun r5 σ6 => zbr (r3 = r5) (f_X10_turnedWithout_49 a0 (f_X10_turnedWithout_13 a0 n) x1 x2 x3 x4 σ6) (zlt (x3 + (1 : Int32)) (fun v7 => f_X10_turnedWithout_49 a0 (f_X10_turnedWithout_13 a0 n) x1 x2 v7 x4 σ6))))))
theorem t_X10_turnedWithout_13 (X : zX) (d : Nat) (hd : 3 ≤ d + 1) (a0 : Nat) (h0 : WC.2 a0 = (10, 0)) : ∀ (n : Nat) (x1 : Int32) (x2 : Int32) (x3 : Int32) (x4 : Int32) (σ : zS), zK X WC (zrm (d + 1)) M_X10_turnedWithout (zZ X WC zeI) 13 [some (.ref a0), some (.int x1), some (.int x2), some (.int x3), some (.int x4)] [] σ (f_X10_turnedWithout_13 a0 n x1 x2 x3 x4 σ) := by
  intro n
  induction n with
  | zero => intro x1 x2 x3 x4 σ; exact z_none
  | succ n ih =>
    intro x1 x2 x3 x4 σ
    rw [f_X10_turnedWithout_13]
    refine z_iload4 8 15 rfl rfl ?_
    refine z_aload0 9 16 rfl rfl ?_
    refine z_getR 10 19 8 rfl rfl zf_X10_61 rfl h0 ?_
    refine z_ck (fun h2 => ?_)
    refine z_getI 11 22 13 rfl rfl zf_X10_202 rfl h2 ?_
    refine z_icmp_ge 12 25 55 rfl rfl (by decide) ?_ ?_
    · refine z_iload3 29 56 rfl rfl ?_
      exact z_iret 30 rfl rfl
    · refine z_aload0 13 26 rfl rfl ?_
      refine z_iload4 14 28 rfl rfl ?_
      refine z_iload2 15 29 rfl rfl ?_
      refine z_iload1 16 30 rfl rfl ?_
      refine z_iconst 17 31 rfl rfl ci_m1 ?_
      refine z_ixor 18 32 rfl rfl ?_
      refine z_iand 19 33 rfl rfl ?_
      refine z_cV2I 20 36 rfl rfl zl_X10_191 F_X10_verdict (zR_rm (by omega)) (c_X10_verdict X d (by omega) a0 x4 (x2 &&& (x1 ^^^ (-1 : Int32))) σ) ⟨by decide, rfl, rfl⟩ h0 rfl (Nat.le_of_ble_eq_true rfl) (fun r3 σ4 => ?_)
      refine z_aload0 21 37 rfl rfl ?_
      refine z_iload4 22 39 rfl rfl ?_
      refine z_iload2 23 40 rfl rfl ?_
      refine z_cV2I 24 43 rfl rfl zl_X10_191 F_X10_verdict (zR_rm (by omega)) (c_X10_verdict X d (by omega) a0 x4 x2 σ4) ⟨by decide, rfl, rfl⟩ h0 rfl (Nat.le_of_ble_eq_true rfl) (fun r5 σ6 => ?_)
      refine z_icmp_eq 25 46 49 rfl rfl (by decide) ?_ ?_
      · exact t_X10_turnedWithout_49 X d hd a0 h0 (f_X10_turnedWithout_13 a0 n) ih x1 x2 x3 x4 σ6
      · refine z_iinc3 26 49 rfl rfl ci_1 rfl (fun v7 => ?_)
        exact t_X10_turnedWithout_49 X d hd a0 h0 (f_X10_turnedWithout_13 a0 n) ih x1 x2 v7 x4 σ6
def f_X10_turnedWithout (a0 : Nat) (x1 : Int32) (σ : zS) : Option (Int32 × zS) := zck (WC.2 a0 = (10, 0)) (zck (WC.2 (σ.2 a0 3) = (6, 0)) (zbd (f_X6_read (σ.2 a0 3) σ) (fun r9 σ10 => zlt r9 (fun v11 => zlt (0 : Int32) (fun v12 => zlt (0 : Int32) (fun v13 => f_X10_turnedWithout_13 a0 FU x1 v11 v12 v13 σ10))))))
theorem c_X10_turnedWithout (X : zX) (d : Nat) (hd : 3 ≤ d) (a0 : Nat) (x1 : Int32) (σ : zS) : ∀ (r : Int32) (σ' : zS), f_X10_turnedWithout a0 x1 σ = some (r, σ') → zCN X WC d M_X10_turnedWithout [.ref a0, .int x1] σ (zeI r, σ') := by
  obtain ⟨d, rfl⟩ : ∃ e, d = e + 1 := ⟨d - 1, by omega⟩
  refine z_entry [.ref a0, .int x1] (by decide +kernel) T_X10_turnedWithout (Nat.le_of_ble_eq_true rfl) ?_
  show zK X WC (zrm (d + 1)) M_X10_turnedWithout (zZ X WC zeI) 0 [some (.ref a0), some (.int x1), none, none, none] [] σ (f_X10_turnedWithout a0 x1 σ)
  unfold f_X10_turnedWithout
  refine z_ck (fun h0 => ?_)
  refine z_aload0 0 1 rfl rfl ?_
  refine z_getR 1 4 3 rfl rfl zf_X10_29 rfl h0 ?_
  refine z_ck (fun h8 => ?_)
  refine z_cV0I 2 7 rfl rfl zl_X10_181 F_X6_read (zR_rm (by omega)) (c_X6_read X d (σ.2 a0 3) σ) ⟨by decide, rfl, rfl⟩ h8 rfl (Nat.le_of_ble_eq_true rfl) (fun r9 σ10 => ?_)
  refine z_istore2 3 8 rfl rfl rfl (fun v11 => ?_)
  refine z_iconst 4 9 rfl rfl ci_0 ?_
  refine z_istore3 5 10 rfl rfl rfl (fun v12 => ?_)
  refine z_iconst 6 11 rfl rfl ci_0 ?_
  refine z_istore4 7 13 rfl rfl rfl (fun v13 => ?_)
  exact t_X10_turnedWithout_13 X d hd a0 h0  FU x1 v11 v12 v13 σ10
def f_X10_power_56 (a0 : Nat) (H20 : Int32 → Int32 → Int32 → zS → Option (Int32 × zS)) (x1 : Int32) (x2 : Int32) (x3 : Int32) (σ : zS) : Option (Int32 × zS) := zlt (x3 + (1 : Int32)) (fun v1 => H20 x1 x2 v1 σ)
theorem t_X10_power_56 (X : zX) (d : Nat) (hd : 4 ≤ d + 1) (a0 : Nat) (h0 : WC.2 a0 = (10, 0)) (H20 : Int32 → Int32 → Int32 → zS → Option (Int32 × zS)) (hH20 : ∀ (x1 : Int32) (x2 : Int32) (x3 : Int32) (σ : zS), zK X WC (zrm (d + 1)) M_X10_power (zZ X WC zeI) 20 [some (.ref a0), some (.int x1), some (.int x2), some (.int x3), none] [] σ (H20 x1 x2 x3 σ)) (x1 : Int32) (x2 : Int32) (x3 : Int32) (σ : zS) : zK X WC (zrm (d + 1)) M_X10_power (zZ X WC zeI) 56 [some (.ref a0), some (.int x1), some (.int x2), some (.int x3), none] [] σ (f_X10_power_56 a0 H20 x1 x2 x3 σ) := by
  unfold f_X10_power_56
  refine z_iinc3 32 59 rfl rfl ci_1 rfl (fun v1 => ?_)
  refine z_goto 33 20 rfl (by decide) ?_
  exact hH20 x1 x2 v1 σ
def f_X10_power_20 (a0 : Nat) : Nat → Int32 → Int32 → Int32 → zS → Option (Int32 × zS)
  | 0, _, _, _, _ => none
  | n + 1, x1, x2, x3, σ => zck (WC.2 (σ.2 a0 8) = (3, 0)) (zbr ((σ.1 (σ.2 a0 8) 12) ≤ x3) (zbd (f_X10_grant a0 x1 σ) (fun r3 σ4 => some (r3, σ4))) (zck (WC.2 (σ.2 a0 3) = (6, 0)) (zbd (f_X6_linesBy (σ.2 a0 3) x3 σ) (fun r6 σ7 => zbd (f_X10_turnedWithout a0 r6 σ7) (fun r8 σ9 => zlt r8 (fun v10 => zbr (v10 ≤ x2) (f_X10_power_56 a0 (f_X10_power_20 a0 n) x1 x2 x3 σ9) (zlt v10 (fun v11 => zlt x3 (fun v12 => f_X10_power_56 a0 (f_X10_power_20 a0 n) v12 v11 x3 σ9)))))))))
theorem t_X10_power_20 (X : zX) (d : Nat) (hd : 4 ≤ d + 1) (a0 : Nat) (h0 : WC.2 a0 = (10, 0)) : ∀ (n : Nat) (x1 : Int32) (x2 : Int32) (x3 : Int32) (σ : zS), zK X WC (zrm (d + 1)) M_X10_power (zZ X WC zeI) 20 [some (.ref a0), some (.int x1), some (.int x2), some (.int x3), none] [] σ (f_X10_power_20 a0 n x1 x2 x3 σ) := by
  intro n
  induction n with
  | zero => intro x1 x2 x3 σ; exact z_none
  | succ n ih =>
    intro x1 x2 x3 σ
    rw [f_X10_power_20]
    refine z_iload3 13 21 rfl rfl ?_
    refine z_aload0 14 22 rfl rfl ?_
    refine z_getR 15 25 8 rfl rfl zf_X10_61 rfl h0 ?_
    refine z_ck (fun h2 => ?_)
    refine z_getI 16 28 12 rfl rfl zf_X10_205 rfl h2 ?_
    refine z_icmp_ge 17 31 62 rfl rfl (by decide) ?_ ?_
    · refine z_aload0 34 63 rfl rfl ?_
      refine z_iload1 35 64 rfl rfl ?_
      refine z_cV1I 36 67 rfl rfl zl_X10_121 F_X10_grant (zR_rm (by omega)) (c_X10_grant X d a0 x1 σ) ⟨by decide, rfl, rfl⟩ h0 rfl (Nat.le_of_ble_eq_true rfl) (fun r3 σ4 => ?_)
      exact z_iret 37 rfl rfl
    · refine z_aload0 18 32 rfl rfl ?_
      refine z_aload0 19 33 rfl rfl ?_
      refine z_getR 20 36 3 rfl rfl zf_X10_29 rfl h0 ?_
      refine z_iload3 21 37 rfl rfl ?_
      refine z_ck (fun h5 => ?_)
      refine z_cV1I 22 40 rfl rfl zl_X10_156 F_X6_linesBy (zR_rm (by omega)) (c_X6_linesBy X d (σ.2 a0 3) x3 σ) ⟨by decide, rfl, rfl⟩ h5 rfl (Nat.le_of_ble_eq_true rfl) (fun r6 σ7 => ?_)
      refine z_cV1I 23 43 rfl rfl zl_X10_213 F_X10_turnedWithout (zR_rm (by omega)) (c_X10_turnedWithout X d (by omega) a0 r6 σ7) ⟨by decide, rfl, rfl⟩ h0 rfl (Nat.le_of_ble_eq_true rfl) (fun r8 σ9 => ?_)
      refine z_istore4 24 45 rfl rfl rfl (fun v10 => ?_)
      refine z_iload4 25 47 rfl rfl ?_
      refine z_iload2 26 48 rfl rfl ?_
      refine z_icmp_le 27 51 56 rfl rfl (by decide) ?_ ?_
      · exact z_wk (zle_e (zle_e (zle_e (zle_e (zle_n zle_0))))) (t_X10_power_56 X d hd a0 h0 (f_X10_power_20 a0 n) ih x1 x2 x3 σ9)
      · refine z_iload4 28 53 rfl rfl ?_
        refine z_istore2 29 54 rfl rfl rfl (fun v11 => ?_)
        refine z_iload3 30 55 rfl rfl ?_
        refine z_istore1 31 56 rfl rfl rfl (fun v12 => ?_)
        exact z_wk (zle_e (zle_e (zle_e (zle_e (zle_n zle_0))))) (t_X10_power_56 X d hd a0 h0 (f_X10_power_20 a0 n) ih v12 v11 x3 σ9)
def f_X10_power (a0 : Nat) (σ : zS) : Option (Int32 × zS) := zck (WC.2 a0 = (10, 0)) (zbd (f_X10_noLetter a0 σ) (fun r13 σ14 => zbr (r13 = 0) (zlt (-2 : Int32) (fun v15 => zlt (0 : Int32) (fun v16 => zlt (0 : Int32) (fun v17 => f_X10_power_20 a0 FU v15 v16 v17 σ14)))) (zbd (f_X10_refuse a0 (1 : Int32) σ14) (fun r18 σ19 => some (r18, σ19)))))
theorem c_X10_power (X : zX) (d : Nat) (hd : 4 ≤ d) (a0 : Nat) (σ : zS) : ∀ (r : Int32) (σ' : zS), f_X10_power a0 σ = some (r, σ') → zCN X WC d M_X10_power [.ref a0] σ (zeI r, σ') := by
  obtain ⟨d, rfl⟩ : ∃ e, d = e + 1 := ⟨d - 1, by omega⟩
  refine z_entry [.ref a0] (by decide +kernel) T_X10_power (Nat.le_of_ble_eq_true rfl) ?_
  show zK X WC (zrm (d + 1)) M_X10_power (zZ X WC zeI) 0 [some (.ref a0), none, none, none, none] [] σ (f_X10_power a0 σ)
  unfold f_X10_power
  refine z_ck (fun h0 => ?_)
  refine z_aload0 0 1 rfl rfl ?_
  refine z_cV0I 1 4 rfl rfl zl_X10_198 F_X10_noLetter (zR_rm (by omega)) (c_X10_noLetter X d a0 σ) ⟨by decide, rfl, rfl⟩ h0 rfl (Nat.le_of_ble_eq_true rfl) (fun r13 σ14 => ?_)
  refine z_if_eq 2 7 13 rfl rfl (by decide) ?_ ?_
  · refine z_bipush 7 15 rfl rfl cb_m2 ?_
    refine z_istore1 8 16 rfl rfl rfl (fun v15 => ?_)
    refine z_iconst 9 17 rfl rfl ci_0 ?_
    refine z_istore2 10 18 rfl rfl rfl (fun v16 => ?_)
    refine z_iconst 11 19 rfl rfl ci_0 ?_
    refine z_istore3 12 20 rfl rfl rfl (fun v17 => ?_)
    exact t_X10_power_20 X d hd a0 h0  FU v15 v16 v17 σ14
  · refine z_aload0 3 8 rfl rfl ?_
    refine z_iconst 4 9 rfl rfl ci_1 ?_
    refine z_cV1I 5 12 rfl rfl zl_X10_82 F_X10_refuse (zR_rm (by omega)) (c_X10_refuse X d a0 (1 : Int32) σ14) ⟨by decide, rfl, rfl⟩ h0 rfl (Nat.le_of_ble_eq_true rfl) (fun r18 σ19 => ?_)
    exact z_iret 6 rfl rfl
def f_X10_verdictOfFirst (a0 : Nat) (x1 : Int32) (x2 : Int32) (σ : zS) : Option (Int32 × zS) := zck (WC.2 a0 = (10, 0)) (zck (WC.2 (σ.2 a0 3) = (6, 0)) (zbd (f_X6_read (σ.2 a0 3) σ) (fun r2 σ3 => zbd (f_X10_verdict a0 x1 (r2 &&& (((1 : Int32) <<< (x2 &&& 31)) - (1 : Int32))) σ3) (fun r4 σ5 => some (r4, σ5)))))
theorem c_X10_verdictOfFirst (X : zX) (d : Nat) (hd : 3 ≤ d) (a0 : Nat) (x1 : Int32) (x2 : Int32) (σ : zS) : ∀ (r : Int32) (σ' : zS), f_X10_verdictOfFirst a0 x1 x2 σ = some (r, σ') → zCN X WC d M_X10_verdictOfFirst [.ref a0, .int x1, .int x2] σ (zeI r, σ') := by
  obtain ⟨d, rfl⟩ : ∃ e, d = e + 1 := ⟨d - 1, by omega⟩
  refine z_entry [.ref a0, .int x1, .int x2] (by decide +kernel) T_X10_verdictOfFirst (Nat.le_of_ble_eq_true rfl) ?_
  show zK X WC (zrm (d + 1)) M_X10_verdictOfFirst (zZ X WC zeI) 0 [some (.ref a0), some (.int x1), some (.int x2)] [] σ (f_X10_verdictOfFirst a0 x1 x2 σ)
  unfold f_X10_verdictOfFirst
  refine z_ck (fun h0 => ?_)
  refine z_aload0 0 1 rfl rfl ?_
  refine z_iload1 1 2 rfl rfl ?_
  refine z_aload0 2 3 rfl rfl ?_
  refine z_getR 3 6 3 rfl rfl zf_X10_29 rfl h0 ?_
  refine z_ck (fun h1 => ?_)
  refine z_cV0I 4 9 rfl rfl zl_X10_181 F_X6_read (zR_rm (by omega)) (c_X6_read X d (σ.2 a0 3) σ) ⟨by decide, rfl, rfl⟩ h1 rfl (Nat.le_of_ble_eq_true rfl) (fun r2 σ3 => ?_)
  refine z_iconst 5 10 rfl rfl ci_1 ?_
  refine z_iload2 6 11 rfl rfl ?_
  refine z_ishl 7 12 rfl rfl ?_
  refine z_iconst 8 13 rfl rfl ci_1 ?_
  refine z_isub 9 14 rfl rfl ?_
  refine z_iand 10 15 rfl rfl ?_
  refine z_cV2I 11 18 rfl rfl zl_X10_191 F_X10_verdict (zR_rm (by omega)) (c_X10_verdict X d (by omega) a0 x1 (r2 &&& (((1 : Int32) <<< (x2 &&& 31)) - (1 : Int32))) σ3) ⟨by decide, rfl, rfl⟩ h0 rfl (Nat.le_of_ble_eq_true rfl) (fun r4 σ5 => ?_)
  exact z_iret 12 rfl rfl
def f_X10_doneBy_29 (a0 : Nat)  (σ : zS) : Option (Int32 × zS) := zbd (f_X10_refuse a0 (2 : Int32) σ) (fun r1 σ2 => some (r1, σ2))
theorem t_X10_doneBy_29 (X : zX) (d : Nat) (hd : 4 ≤ d + 1) (a0 : Nat) (h0 : WC.2 a0 = (10, 0))  (σ : zS) : zK X WC (zrm (d + 1)) M_X10_doneBy (zZ X WC zeI) 29 [some (.ref a0), none, none] [] σ (f_X10_doneBy_29 a0 σ) := by
  unfold f_X10_doneBy_29
  refine z_aload0 15 30 rfl rfl ?_
  refine z_iconst 16 31 rfl rfl ci_2 ?_
  refine z_cV1I 17 34 rfl rfl zl_X10_82 F_X10_refuse (zR_rm (by omega)) (c_X10_refuse X d a0 (2 : Int32) σ) ⟨by decide, rfl, rfl⟩ h0 rfl (Nat.le_of_ble_eq_true rfl) (fun r1 σ2 => ?_)
  exact z_iret 18 rfl rfl
def f_X10_doneBy (a0 : Nat) (x1 : Int32) (x2 : Int32) (σ : zS) : Option (Int32 × zS) := zck (WC.2 a0 = (10, 0)) (zbd (f_X10_isMatter a0 x1 σ) (fun r3 σ4 => zbr (r3 = 0) (zbd (f_X10_refuse a0 (1 : Int32) σ4) (fun r5 σ6 => some (r5, σ6))) (zbr (x2 < 0) (f_X10_doneBy_29 a0 σ4) (zck (WC.2 (σ4.2 a0 3) = (6, 0)) (zbr (x2 ≤ (σ4.1 (σ4.2 a0 3) 5)) (zbd (f_X10_verdictOfFirst a0 x1 x2 σ4) (fun r8 σ9 => zbd (f_X10_grant a0 r8 σ9) (fun r10 σ11 => some (r10, σ11)))) (f_X10_doneBy_29 a0 σ4))))))
theorem c_X10_doneBy (X : zX) (d : Nat) (hd : 4 ≤ d) (a0 : Nat) (x1 : Int32) (x2 : Int32) (σ : zS) : ∀ (r : Int32) (σ' : zS), f_X10_doneBy a0 x1 x2 σ = some (r, σ') → zCN X WC d M_X10_doneBy [.ref a0, .int x1, .int x2] σ (zeI r, σ') := by
  obtain ⟨d, rfl⟩ : ∃ e, d = e + 1 := ⟨d - 1, by omega⟩
  refine z_entry [.ref a0, .int x1, .int x2] (by decide +kernel) T_X10_doneBy (Nat.le_of_ble_eq_true rfl) ?_
  show zK X WC (zrm (d + 1)) M_X10_doneBy (zZ X WC zeI) 0 [some (.ref a0), some (.int x1), some (.int x2)] [] σ (f_X10_doneBy a0 x1 x2 σ)
  unfold f_X10_doneBy
  refine z_ck (fun h0 => ?_)
  refine z_aload0 0 1 rfl rfl ?_
  refine z_iload1 1 2 rfl rfl ?_
  refine z_cV1I 2 5 rfl rfl zl_X10_188 F_X10_isMatter (zR_rm (by omega)) (c_X10_isMatter X d a0 x1 σ) ⟨by decide, rfl, rfl⟩ h0 rfl (Nat.le_of_ble_eq_true rfl) (fun r3 σ4 => ?_)
  refine z_if_ne 3 8 14 rfl rfl (by decide) ?_ ?_
  · refine z_aload0 4 9 rfl rfl ?_
    refine z_iconst 5 10 rfl rfl ci_1 ?_
    refine z_cV1I 6 13 rfl rfl zl_X10_82 F_X10_refuse (zR_rm (by omega)) (c_X10_refuse X d a0 (1 : Int32) σ4) ⟨by decide, rfl, rfl⟩ h0 rfl (Nat.le_of_ble_eq_true rfl) (fun r5 σ6 => ?_)
    exact z_iret 7 rfl rfl
  · refine z_iload2 8 15 rfl rfl ?_
    refine z_if_lt 9 18 29 rfl rfl (by decide) ?_ ?_
    · exact z_wk (zle_e (zle_n (zle_n zle_0))) (t_X10_doneBy_29 X d hd a0 h0  σ4)
    · refine z_iload2 10 19 rfl rfl ?_
      refine z_aload0 11 20 rfl rfl ?_
      refine z_getR 12 23 3 rfl rfl zf_X10_29 rfl h0 ?_
      refine z_ck (fun h7 => ?_)
      refine z_getI 13 26 5 rfl rfl zf_X10_216 rfl h7 ?_
      refine z_icmp_le 14 29 35 rfl rfl (by decide) ?_ ?_
      · refine z_aload0 19 36 rfl rfl ?_
        refine z_aload0 20 37 rfl rfl ?_
        refine z_iload1 21 38 rfl rfl ?_
        refine z_iload2 22 39 rfl rfl ?_
        refine z_cV2I 23 42 rfl rfl zl_X10_217 F_X10_verdictOfFirst (zR_rm (by omega)) (c_X10_verdictOfFirst X d (by omega) a0 x1 x2 σ4) ⟨by decide, rfl, rfl⟩ h0 rfl (Nat.le_of_ble_eq_true rfl) (fun r8 σ9 => ?_)
        refine z_cV1I 24 45 rfl rfl zl_X10_121 F_X10_grant (zR_rm (by omega)) (c_X10_grant X d a0 r8 σ9) ⟨by decide, rfl, rfl⟩ h0 rfl (Nat.le_of_ble_eq_true rfl) (fun r10 σ11 => ?_)
        exact z_iret 25 rfl rfl
      · exact z_wk (zle_e (zle_n (zle_n zle_0))) (t_X10_doneBy_29 X d hd a0 h0  σ4)
def f_X10_changes_56 (a0 : Nat) (H26 : Int32 → Int32 → Int32 → Int32 → zS → Option (Int32 × zS)) (x1 : Int32) (x2 : Int32) (x4 : Int32) (x5 : Int32) (σ : zS) : Option (Int32 × zS) := zlt x5 (fun v1 => zlt (x4 + (1 : Int32)) (fun v2 => H26 x1 x2 v1 v2 σ))
theorem t_X10_changes_56 (X : zX) (d : Nat) (hd : 4 ≤ d + 1) (a0 : Nat) (h0 : WC.2 a0 = (10, 0)) (H26 : Int32 → Int32 → Int32 → Int32 → zS → Option (Int32 × zS)) (hH26 : ∀ (x1 : Int32) (x2 : Int32) (x3 : Int32) (x4 : Int32) (σ : zS), zK X WC (zrm (d + 1)) M_X10_changes (zZ X WC zeI) 26 [some (.ref a0), some (.int x1), some (.int x2), some (.int x3), some (.int x4), none] [] σ (H26 x1 x2 x3 x4 σ)) (x1 : Int32) (x2 : Int32) (x4 : Int32) (x5 : Int32) (σ : zS) : zK X WC (zrm (d + 1)) M_X10_changes (zZ X WC zeI) 56 [some (.ref a0), some (.int x1), some (.int x2), none, some (.int x4), some (.int x5)] [] σ (f_X10_changes_56 a0 H26 x1 x2 x4 x5 σ) := by
  unfold f_X10_changes_56
  refine z_iload5 31 58 rfl rfl ?_
  refine z_istore3 32 59 rfl rfl rfl (fun v1 => ?_)
  refine z_iinc4 33 62 rfl rfl ci_1 rfl (fun v2 => ?_)
  refine z_goto 34 26 rfl (by decide) ?_
  exact z_wk (zle_e (zle_e (zle_e (zle_e (zle_e (zle_n zle_0)))))) (hH26 x1 x2 v1 v2 σ)
def f_X10_changes_26 (a0 : Nat) : Nat → Int32 → Int32 → Int32 → Int32 → zS → Option (Int32 × zS)
  | 0, _, _, _, _, _ => none
  | n + 1, x1, x2, x3, x4, σ => zck (WC.2 (σ.2 a0 3) = (6, 0)) (zbr ((σ.1 (σ.2 a0 3) 5) < x4) (zbd (f_X10_grant a0 x2 σ) (fun r4 σ5 => some (r4, σ5))) (zbd (f_X10_verdictOfFirst a0 x1 x4 σ) (fun r6 σ7 => zlt r6 (fun v8 => zbr (v8 = x3) (f_X10_changes_56 a0 (f_X10_changes_26 a0 n) x1 x2 x4 v8 σ7) (zlt (x2 + (1 : Int32)) (fun v9 => f_X10_changes_56 a0 (f_X10_changes_26 a0 n) x1 v9 x4 v8 σ7))))))
theorem t_X10_changes_26 (X : zX) (d : Nat) (hd : 4 ≤ d + 1) (a0 : Nat) (h0 : WC.2 a0 = (10, 0)) : ∀ (n : Nat) (x1 : Int32) (x2 : Int32) (x3 : Int32) (x4 : Int32) (σ : zS), zK X WC (zrm (d + 1)) M_X10_changes (zZ X WC zeI) 26 [some (.ref a0), some (.int x1), some (.int x2), some (.int x3), some (.int x4), none] [] σ (f_X10_changes_26 a0 n x1 x2 x3 x4 σ) := by
  intro n
  induction n with
  | zero => intro x1 x2 x3 x4 σ; exact z_none
  | succ n ih =>
    intro x1 x2 x3 x4 σ
    rw [f_X10_changes_26]
    refine z_iload4 17 28 rfl rfl ?_
    refine z_aload0 18 29 rfl rfl ?_
    refine z_getR 19 32 3 rfl rfl zf_X10_29 rfl h0 ?_
    refine z_ck (fun h3 => ?_)
    refine z_getI 20 35 5 rfl rfl zf_X10_216 rfl h3 ?_
    refine z_icmp_gt 21 38 65 rfl rfl (by decide) ?_ ?_
    · refine z_aload0 35 66 rfl rfl ?_
      refine z_iload2 36 67 rfl rfl ?_
      refine z_cV1I 37 70 rfl rfl zl_X10_121 F_X10_grant (zR_rm (by omega)) (c_X10_grant X d a0 x2 σ) ⟨by decide, rfl, rfl⟩ h0 rfl (Nat.le_of_ble_eq_true rfl) (fun r4 σ5 => ?_)
      exact z_iret 38 rfl rfl
    · refine z_aload0 22 39 rfl rfl ?_
      refine z_iload1 23 40 rfl rfl ?_
      refine z_iload4 24 42 rfl rfl ?_
      refine z_cV2I 25 45 rfl rfl zl_X10_217 F_X10_verdictOfFirst (zR_rm (by omega)) (c_X10_verdictOfFirst X d (by omega) a0 x1 x4 σ) ⟨by decide, rfl, rfl⟩ h0 rfl (Nat.le_of_ble_eq_true rfl) (fun r6 σ7 => ?_)
      refine z_istore5 26 47 rfl rfl rfl (fun v8 => ?_)
      refine z_iload5 27 49 rfl rfl ?_
      refine z_iload3 28 50 rfl rfl ?_
      refine z_icmp_eq 29 53 56 rfl rfl (by decide) ?_ ?_
      · exact z_wk (zle_e (zle_e (zle_e (zle_n (zle_e (zle_e zle_0)))))) (t_X10_changes_56 X d hd a0 h0 (f_X10_changes_26 a0 n) ih x1 x2 x4 v8 σ7)
      · refine z_iinc2 30 56 rfl rfl ci_1 rfl (fun v9 => ?_)
        exact z_wk (zle_e (zle_e (zle_e (zle_n (zle_e (zle_e zle_0)))))) (t_X10_changes_56 X d hd a0 h0 (f_X10_changes_26 a0 n) ih x1 v9 x4 v8 σ7)
def f_X10_changes (a0 : Nat) (x1 : Int32) (σ : zS) : Option (Int32 × zS) := zck (WC.2 a0 = (10, 0)) (zbd (f_X10_isMatter a0 x1 σ) (fun r10 σ11 => zbr (r10 = 0) (zbd (f_X10_refuse a0 (1 : Int32) σ11) (fun r12 σ13 => some (r12, σ13))) (zlt (0 : Int32) (fun v14 => zbd (f_X10_verdictOfFirst a0 x1 (0 : Int32) σ11) (fun r15 σ16 => zlt r15 (fun v17 => zlt (1 : Int32) (fun v18 => f_X10_changes_26 a0 FU x1 v14 v17 v18 σ16)))))))
theorem c_X10_changes (X : zX) (d : Nat) (hd : 4 ≤ d) (a0 : Nat) (x1 : Int32) (σ : zS) : ∀ (r : Int32) (σ' : zS), f_X10_changes a0 x1 σ = some (r, σ') → zCN X WC d M_X10_changes [.ref a0, .int x1] σ (zeI r, σ') := by
  obtain ⟨d, rfl⟩ : ∃ e, d = e + 1 := ⟨d - 1, by omega⟩
  refine z_entry [.ref a0, .int x1] (by decide +kernel) T_X10_changes (Nat.le_of_ble_eq_true rfl) ?_
  show zK X WC (zrm (d + 1)) M_X10_changes (zZ X WC zeI) 0 [some (.ref a0), some (.int x1), none, none, none, none] [] σ (f_X10_changes a0 x1 σ)
  unfold f_X10_changes
  refine z_ck (fun h0 => ?_)
  refine z_aload0 0 1 rfl rfl ?_
  refine z_iload1 1 2 rfl rfl ?_
  refine z_cV1I 2 5 rfl rfl zl_X10_188 F_X10_isMatter (zR_rm (by omega)) (c_X10_isMatter X d a0 x1 σ) ⟨by decide, rfl, rfl⟩ h0 rfl (Nat.le_of_ble_eq_true rfl) (fun r10 σ11 => ?_)
  refine z_if_ne 3 8 14 rfl rfl (by decide) ?_ ?_
  · refine z_aload0 4 9 rfl rfl ?_
    refine z_iconst 5 10 rfl rfl ci_1 ?_
    refine z_cV1I 6 13 rfl rfl zl_X10_82 F_X10_refuse (zR_rm (by omega)) (c_X10_refuse X d a0 (1 : Int32) σ11) ⟨by decide, rfl, rfl⟩ h0 rfl (Nat.le_of_ble_eq_true rfl) (fun r12 σ13 => ?_)
    exact z_iret 7 rfl rfl
  · refine z_iconst 8 15 rfl rfl ci_0 ?_
    refine z_istore2 9 16 rfl rfl rfl (fun v14 => ?_)
    refine z_aload0 10 17 rfl rfl ?_
    refine z_iload1 11 18 rfl rfl ?_
    refine z_iconst 12 19 rfl rfl ci_0 ?_
    refine z_cV2I 13 22 rfl rfl zl_X10_217 F_X10_verdictOfFirst (zR_rm (by omega)) (c_X10_verdictOfFirst X d (by omega) a0 x1 (0 : Int32) σ11) ⟨by decide, rfl, rfl⟩ h0 rfl (Nat.le_of_ble_eq_true rfl) (fun r15 σ16 => ?_)
    refine z_istore3 14 23 rfl rfl rfl (fun v17 => ?_)
    refine z_iconst 15 24 rfl rfl ci_1 ?_
    refine z_istore4 16 26 rfl rfl rfl (fun v18 => ?_)
    exact t_X10_changes_26 X d hd a0 h0  FU x1 v14 v17 v18 σ16
def f_X10_since_71 (a0 : Nat) (x3 : Int32) (σ : zS) : Option (Int32 × zS) := zbd (f_X10_grant a0 x3 σ) (fun r1 σ2 => some (r1, σ2))
theorem t_X10_since_71 (X : zX) (d : Nat) (hd : 4 ≤ d + 1) (a0 : Nat) (h0 : WC.2 a0 = (10, 0)) (x3 : Int32) (σ : zS) : zK X WC (zrm (d + 1)) M_X10_since (zZ X WC zeI) 71 [some (.ref a0), none, none, some (.int x3), none] [] σ (f_X10_since_71 a0 x3 σ) := by
  unfold f_X10_since_71
  refine z_aload0 37 72 rfl rfl ?_
  refine z_iload3 38 73 rfl rfl ?_
  refine z_cV1I 39 76 rfl rfl zl_X10_121 F_X10_grant (zR_rm (by omega)) (c_X10_grant X d a0 x3 σ) ⟨by decide, rfl, rfl⟩ h0 rfl (Nat.le_of_ble_eq_true rfl) (fun r1 σ2 => ?_)
  exact z_iret 40 rfl rfl
def f_X10_since_46 (a0 : Nat) : Nat → Int32 → Int32 → Int32 → Int32 → zS → Option (Int32 × zS)
  | 0, _, _, _, _, _ => none
  | n + 1, x1, x2, x3, x4, σ => zbr (x4 < 0) (f_X10_since_71 a0 x3 σ) (zbd (f_X10_verdictOfFirst a0 x1 x4 σ) (fun r3 σ4 => zbr (r3 = x2) (zlt x4 (fun v5 => zlt (x4 + (-1 : Int32)) (fun v6 => f_X10_since_46 a0 n x1 x2 v5 v6 σ4))) (f_X10_since_71 a0 x3 σ4)))
theorem t_X10_since_46 (X : zX) (d : Nat) (hd : 4 ≤ d + 1) (a0 : Nat) (h0 : WC.2 a0 = (10, 0)) : ∀ (n : Nat) (x1 : Int32) (x2 : Int32) (x3 : Int32) (x4 : Int32) (σ : zS), zK X WC (zrm (d + 1)) M_X10_since (zZ X WC zeI) 46 [some (.ref a0), some (.int x1), some (.int x2), some (.int x3), some (.int x4)] [] σ (f_X10_since_46 a0 n x1 x2 x3 x4 σ) := by
  intro n
  induction n with
  | zero => intro x1 x2 x3 x4 σ; exact z_none
  | succ n ih =>
    intro x1 x2 x3 x4 σ
    rw [f_X10_since_46]
    refine z_iload4 25 48 rfl rfl ?_
    refine z_if_lt 26 51 71 rfl rfl (by decide) ?_ ?_
    · exact z_wk (zle_e (zle_n (zle_n (zle_e (zle_n zle_0))))) (t_X10_since_71 X d hd a0 h0  x3 σ)
    · refine z_aload0 27 52 rfl rfl ?_
      refine z_iload1 28 53 rfl rfl ?_
      refine z_iload4 29 55 rfl rfl ?_
      refine z_cV2I 30 58 rfl rfl zl_X10_217 F_X10_verdictOfFirst (zR_rm (by omega)) (c_X10_verdictOfFirst X d (by omega) a0 x1 x4 σ) ⟨by decide, rfl, rfl⟩ h0 rfl (Nat.le_of_ble_eq_true rfl) (fun r3 σ4 => ?_)
      refine z_iload2 31 59 rfl rfl ?_
      refine z_icmp_ne 32 62 71 rfl rfl (by decide) ?_ ?_
      · refine z_iload4 33 64 rfl rfl ?_
        refine z_istore3 34 65 rfl rfl rfl (fun v5 => ?_)
        refine z_iinc4 35 68 rfl rfl ci_m1 rfl (fun v6 => ?_)
        refine z_goto 36 46 rfl (by decide) ?_
        exact ih x1 x2 v5 v6 σ4
      · exact z_wk (zle_e (zle_n (zle_n (zle_e (zle_n zle_0))))) (t_X10_since_71 X d hd a0 h0  x3 σ4)
def f_X10_since (a0 : Nat) (x1 : Int32) (σ : zS) : Option (Int32 × zS) := zck (WC.2 a0 = (10, 0)) (zbd (f_X10_isMatter a0 x1 σ) (fun r7 σ8 => zbr (r7 = 0) (zbd (f_X10_refuse a0 (1 : Int32) σ8) (fun r9 σ10 => some (r9, σ10))) (zck (WC.2 (σ8.2 a0 3) = (6, 0)) (zbd (f_X10_verdictOfFirst a0 x1 (σ8.1 (σ8.2 a0 3) 5) σ8) (fun r12 σ13 => zlt r12 (fun v14 => zck (WC.2 (σ13.2 a0 3) = (6, 0)) (zlt (σ13.1 (σ13.2 a0 3) 5) (fun v16 => zlt ((σ13.1 (σ13.2 a0 3) 5) - (1 : Int32)) (fun v17 => f_X10_since_46 a0 FU x1 v14 v16 v17 σ13)))))))))
theorem c_X10_since (X : zX) (d : Nat) (hd : 4 ≤ d) (a0 : Nat) (x1 : Int32) (σ : zS) : ∀ (r : Int32) (σ' : zS), f_X10_since a0 x1 σ = some (r, σ') → zCN X WC d M_X10_since [.ref a0, .int x1] σ (zeI r, σ') := by
  obtain ⟨d, rfl⟩ : ∃ e, d = e + 1 := ⟨d - 1, by omega⟩
  refine z_entry [.ref a0, .int x1] (by decide +kernel) T_X10_since (Nat.le_of_ble_eq_true rfl) ?_
  show zK X WC (zrm (d + 1)) M_X10_since (zZ X WC zeI) 0 [some (.ref a0), some (.int x1), none, none, none] [] σ (f_X10_since a0 x1 σ)
  unfold f_X10_since
  refine z_ck (fun h0 => ?_)
  refine z_aload0 0 1 rfl rfl ?_
  refine z_iload1 1 2 rfl rfl ?_
  refine z_cV1I 2 5 rfl rfl zl_X10_188 F_X10_isMatter (zR_rm (by omega)) (c_X10_isMatter X d a0 x1 σ) ⟨by decide, rfl, rfl⟩ h0 rfl (Nat.le_of_ble_eq_true rfl) (fun r7 σ8 => ?_)
  refine z_if_ne 3 8 14 rfl rfl (by decide) ?_ ?_
  · refine z_aload0 4 9 rfl rfl ?_
    refine z_iconst 5 10 rfl rfl ci_1 ?_
    refine z_cV1I 6 13 rfl rfl zl_X10_82 F_X10_refuse (zR_rm (by omega)) (c_X10_refuse X d a0 (1 : Int32) σ8) ⟨by decide, rfl, rfl⟩ h0 rfl (Nat.le_of_ble_eq_true rfl) (fun r9 σ10 => ?_)
    exact z_iret 7 rfl rfl
  · refine z_aload0 8 15 rfl rfl ?_
    refine z_iload1 9 16 rfl rfl ?_
    refine z_aload0 10 17 rfl rfl ?_
    refine z_getR 11 20 3 rfl rfl zf_X10_29 rfl h0 ?_
    refine z_ck (fun h11 => ?_)
    refine z_getI 12 23 5 rfl rfl zf_X10_216 rfl h11 ?_
    refine z_cV2I 13 26 rfl rfl zl_X10_217 F_X10_verdictOfFirst (zR_rm (by omega)) (c_X10_verdictOfFirst X d (by omega) a0 x1 (σ8.1 (σ8.2 a0 3) 5) σ8) ⟨by decide, rfl, rfl⟩ h0 rfl (Nat.le_of_ble_eq_true rfl) (fun r12 σ13 => ?_)
    refine z_istore2 14 27 rfl rfl rfl (fun v14 => ?_)
    refine z_aload0 15 28 rfl rfl ?_
    refine z_getR 16 31 3 rfl rfl zf_X10_29 rfl h0 ?_
    refine z_ck (fun h15 => ?_)
    refine z_getI 17 34 5 rfl rfl zf_X10_216 rfl h15 ?_
    refine z_istore3 18 35 rfl rfl rfl (fun v16 => ?_)
    refine z_aload0 19 36 rfl rfl ?_
    refine z_getR 20 39 3 rfl rfl zf_X10_29 rfl h0 ?_
    refine z_getI 21 42 5 rfl rfl zf_X10_216 rfl h15 ?_
    refine z_iconst 22 43 rfl rfl ci_1 ?_
    refine z_isub 23 44 rfl rfl ?_
    refine z_istore4 24 46 rfl rfl rfl (fun v17 => ?_)
    exact t_X10_since_46 X d hd a0 h0  FU x1 v14 v16 v17 σ13
def f_X10_idle_61 (a0 : Nat) (H25 : Int32 → Int32 → Int32 → zS → Option (Int32 × zS)) (x1 : Int32) (x2 : Int32) (x3 : Int32) (σ : zS) : Option (Int32 × zS) := zlt (x3 + (1 : Int32)) (fun v1 => H25 x1 x2 v1 σ)
theorem t_X10_idle_61 (X : zX) (d : Nat) (hd : 4 ≤ d + 1) (a0 : Nat) (h0 : WC.2 a0 = (10, 0)) (H25 : Int32 → Int32 → Int32 → zS → Option (Int32 × zS)) (hH25 : ∀ (x1 : Int32) (x2 : Int32) (x3 : Int32) (σ : zS), zK X WC (zrm (d + 1)) M_X10_idle (zZ X WC zeI) 25 [some (.ref a0), some (.int x1), some (.int x2), some (.int x3)] [] σ (H25 x1 x2 x3 σ)) (x1 : Int32) (x2 : Int32) (x3 : Int32) (σ : zS) : zK X WC (zrm (d + 1)) M_X10_idle (zZ X WC zeI) 61 [some (.ref a0), some (.int x1), some (.int x2), some (.int x3)] [] σ (f_X10_idle_61 a0 H25 x1 x2 x3 σ) := by
  unfold f_X10_idle_61
  refine z_iinc3 39 64 rfl rfl ci_1 rfl (fun v1 => ?_)
  refine z_goto 40 25 rfl (by decide) ?_
  exact hH25 x1 x2 v1 σ
def f_X10_idle_25 (a0 : Nat) : Nat → Int32 → Int32 → Int32 → zS → Option (Int32 × zS)
  | 0, _, _, _, _ => none
  | n + 1, x1, x2, x3, σ => zck (WC.2 (σ.2 a0 3) = (6, 0)) (zbr ((σ.1 (σ.2 a0 3) 5) ≤ x3) (zbd (f_X10_grant a0 x2 σ) (fun r3 σ4 => some (r3, σ4))) (zbr (((x1 >>> (x3 &&& 31)) &&& (1 : Int32)) = (1 : Int32)) (zbd (f_X10_turnedWithout a0 ((1 : Int32) <<< (x3 &&& 31)) σ) (fun r5 σ6 => zbr (r5 = 0) (zlt (x2 ||| ((1 : Int32) <<< (x3 &&& 31))) (fun v7 => f_X10_idle_61 a0 (f_X10_idle_25 a0 n) x1 v7 x3 σ6)) (f_X10_idle_61 a0 (f_X10_idle_25 a0 n) x1 x2 x3 σ6))) (f_X10_idle_61 a0 (f_X10_idle_25 a0 n) x1 x2 x3 σ)))
theorem t_X10_idle_25 (X : zX) (d : Nat) (hd : 4 ≤ d + 1) (a0 : Nat) (h0 : WC.2 a0 = (10, 0)) : ∀ (n : Nat) (x1 : Int32) (x2 : Int32) (x3 : Int32) (σ : zS), zK X WC (zrm (d + 1)) M_X10_idle (zZ X WC zeI) 25 [some (.ref a0), some (.int x1), some (.int x2), some (.int x3)] [] σ (f_X10_idle_25 a0 n x1 x2 x3 σ) := by
  intro n
  induction n with
  | zero => intro x1 x2 x3 σ; exact z_none
  | succ n ih =>
    intro x1 x2 x3 σ
    rw [f_X10_idle_25]
    refine z_iload3 15 26 rfl rfl ?_
    refine z_aload0 16 27 rfl rfl ?_
    refine z_getR 17 30 3 rfl rfl zf_X10_29 rfl h0 ?_
    refine z_ck (fun h2 => ?_)
    refine z_getI 18 33 5 rfl rfl zf_X10_216 rfl h2 ?_
    refine z_icmp_ge 19 36 67 rfl rfl (by decide) ?_ ?_
    · refine z_aload0 41 68 rfl rfl ?_
      refine z_iload2 42 69 rfl rfl ?_
      refine z_cV1I 43 72 rfl rfl zl_X10_121 F_X10_grant (zR_rm (by omega)) (c_X10_grant X d a0 x2 σ) ⟨by decide, rfl, rfl⟩ h0 rfl (Nat.le_of_ble_eq_true rfl) (fun r3 σ4 => ?_)
      exact z_iret 44 rfl rfl
    · refine z_iload1 20 37 rfl rfl ?_
      refine z_iload3 21 38 rfl rfl ?_
      refine z_ishr 22 39 rfl rfl ?_
      refine z_iconst 23 40 rfl rfl ci_1 ?_
      refine z_iand 24 41 rfl rfl ?_
      refine z_iconst 25 42 rfl rfl ci_1 ?_
      refine z_icmp_ne 26 45 61 rfl rfl (by decide) ?_ ?_
      · refine z_aload0 27 46 rfl rfl ?_
        refine z_iconst 28 47 rfl rfl ci_1 ?_
        refine z_iload3 29 48 rfl rfl ?_
        refine z_ishl 30 49 rfl rfl ?_
        refine z_cV1I 31 52 rfl rfl zl_X10_213 F_X10_turnedWithout (zR_rm (by omega)) (c_X10_turnedWithout X d (by omega) a0 ((1 : Int32) <<< (x3 &&& 31)) σ) ⟨by decide, rfl, rfl⟩ h0 rfl (Nat.le_of_ble_eq_true rfl) (fun r5 σ6 => ?_)
        refine z_if_ne 32 55 61 rfl rfl (by decide) ?_ ?_
        · refine z_iload2 33 56 rfl rfl ?_
          refine z_iconst 34 57 rfl rfl ci_1 ?_
          refine z_iload3 35 58 rfl rfl ?_
          refine z_ishl 36 59 rfl rfl ?_
          refine z_ior 37 60 rfl rfl ?_
          refine z_istore2 38 61 rfl rfl rfl (fun v7 => ?_)
          exact t_X10_idle_61 X d hd a0 h0 (f_X10_idle_25 a0 n) ih x1 v7 x3 σ6
        · exact t_X10_idle_61 X d hd a0 h0 (f_X10_idle_25 a0 n) ih x1 x2 x3 σ6
      · exact t_X10_idle_61 X d hd a0 h0 (f_X10_idle_25 a0 n) ih x1 x2 x3 σ
def f_X10_idle (a0 : Nat) (σ : zS) : Option (Int32 × zS) := zck (WC.2 a0 = (10, 0)) (zbd (f_X10_noLetter a0 σ) (fun r8 σ9 => zbr (r8 = 0) (zck (WC.2 (σ9.2 a0 3) = (6, 0)) (zbd (f_X6_read (σ9.2 a0 3) σ9) (fun r11 σ12 => zlt r11 (fun v13 => zlt (0 : Int32) (fun v14 => zlt (0 : Int32) (fun v15 => f_X10_idle_25 a0 FU v13 v14 v15 σ12)))))) (zbd (f_X10_refuse a0 (1 : Int32) σ9) (fun r16 σ17 => some (r16, σ17)))))
theorem c_X10_idle (X : zX) (d : Nat) (hd : 4 ≤ d) (a0 : Nat) (σ : zS) : ∀ (r : Int32) (σ' : zS), f_X10_idle a0 σ = some (r, σ') → zCN X WC d M_X10_idle [.ref a0] σ (zeI r, σ') := by
  obtain ⟨d, rfl⟩ : ∃ e, d = e + 1 := ⟨d - 1, by omega⟩
  refine z_entry [.ref a0] (by decide +kernel) T_X10_idle (Nat.le_of_ble_eq_true rfl) ?_
  show zK X WC (zrm (d + 1)) M_X10_idle (zZ X WC zeI) 0 [some (.ref a0), none, none, none] [] σ (f_X10_idle a0 σ)
  unfold f_X10_idle
  refine z_ck (fun h0 => ?_)
  refine z_aload0 0 1 rfl rfl ?_
  refine z_cV0I 1 4 rfl rfl zl_X10_198 F_X10_noLetter (zR_rm (by omega)) (c_X10_noLetter X d a0 σ) ⟨by decide, rfl, rfl⟩ h0 rfl (Nat.le_of_ble_eq_true rfl) (fun r8 σ9 => ?_)
  refine z_if_eq 2 7 13 rfl rfl (by decide) ?_ ?_
  · refine z_aload0 7 14 rfl rfl ?_
    refine z_getR 8 17 3 rfl rfl zf_X10_29 rfl h0 ?_
    refine z_ck (fun h10 => ?_)
    refine z_cV0I 9 20 rfl rfl zl_X10_181 F_X6_read (zR_rm (by omega)) (c_X6_read X d (σ9.2 a0 3) σ9) ⟨by decide, rfl, rfl⟩ h10 rfl (Nat.le_of_ble_eq_true rfl) (fun r11 σ12 => ?_)
    refine z_istore1 10 21 rfl rfl rfl (fun v13 => ?_)
    refine z_iconst 11 22 rfl rfl ci_0 ?_
    refine z_istore2 12 23 rfl rfl rfl (fun v14 => ?_)
    refine z_iconst 13 24 rfl rfl ci_0 ?_
    refine z_istore3 14 25 rfl rfl rfl (fun v15 => ?_)
    exact t_X10_idle_25 X d hd a0 h0  FU v13 v14 v15 σ12
  · refine z_aload0 3 8 rfl rfl ?_
    refine z_iconst 4 9 rfl rfl ci_1 ?_
    refine z_cV1I 5 12 rfl rfl zl_X10_82 F_X10_refuse (zR_rm (by omega)) (c_X10_refuse X d a0 (1 : Int32) σ9) ⟨by decide, rfl, rfl⟩ h0 rfl (Nat.le_of_ble_eq_true rfl) (fun r16 σ17 => ?_)
    exact z_iret 6 rfl rfl
def f_X10_leastTurn_90 (a0 : Nat) (H38 : Int32 → Int32 → Int32 → Int32 → Int32 → Int32 → Int32 → zS → Option (Int32 × zS)) (x1 : Int32) (x2 : Int32) (x3 : Int32) (x4 : Int32) (x5 : Int32) (x6 : Int32) (x7 : Int32) (σ : zS) : Option (Int32 × zS) := zlt (x7 + (1 : Int32)) (fun v1 => H38 x1 x2 x3 x4 x5 x6 v1 σ)
theorem t_X10_leastTurn_90 (X : zX) (d : Nat) (hd : 3 ≤ d + 1) (a0 : Nat) (h0 : WC.2 a0 = (10, 0)) (H38 : Int32 → Int32 → Int32 → Int32 → Int32 → Int32 → Int32 → zS → Option (Int32 × zS)) (hH38 : ∀ (x1 : Int32) (x2 : Int32) (x3 : Int32) (x4 : Int32) (x5 : Int32) (x6 : Int32) (x7 : Int32) (σ : zS), zK X WC (zrm (d + 1)) M_X10_leastTurn (zZ X WC zeI) 38 [some (.ref a0), some (.int x1), some (.int x2), some (.int x3), some (.int x4), some (.int x5), some (.int x6), some (.int x7)] [] σ (H38 x1 x2 x3 x4 x5 x6 x7 σ)) (x1 : Int32) (x2 : Int32) (x3 : Int32) (x4 : Int32) (x5 : Int32) (x6 : Int32) (x7 : Int32) (σ : zS) : zK X WC (zrm (d + 1)) M_X10_leastTurn (zZ X WC zeI) 90 [some (.ref a0), some (.int x1), some (.int x2), some (.int x3), some (.int x4), some (.int x5), some (.int x6), some (.int x7)] [] σ (f_X10_leastTurn_90 a0 H38 x1 x2 x3 x4 x5 x6 x7 σ) := by
  unfold f_X10_leastTurn_90
  refine z_iinc7 50 93 rfl rfl ci_1 rfl (fun v1 => ?_)
  refine z_goto 51 38 rfl (by decide) ?_
  exact hH38 x1 x2 x3 x4 x5 x6 v1 σ
def f_X10_leastTurn_38 (a0 : Nat) : Nat → Int32 → Int32 → Int32 → Int32 → Int32 → Int32 → Int32 → zS → Option (Int32 × zS)
  | 0, _, _, _, _, _, _, _, _ => none
  | n + 1, x1, x2, x3, x4, x5, x6, x7, σ => zbr (x3 < x7) (some (x5, σ)) (zbr ((x7 &&& (x3 ^^^ (-1 : Int32))) = 0) (zbd (f_J6_bitCount WC x7 σ) (fun r2 σ3 => zbr (x6 ≤ r2) (f_X10_leastTurn_90 a0 (f_X10_leastTurn_38 a0 n) x1 x2 x3 x4 x5 x6 x7 σ3) (zbd (f_X10_verdict a0 x1 (x2 &&& (x7 ^^^ (-1 : Int32))) σ3) (fun r4 σ5 => zbr (r4 = x4) (f_X10_leastTurn_90 a0 (f_X10_leastTurn_38 a0 n) x1 x2 x3 x4 x5 x6 x7 σ5) (zbd (f_J6_bitCount WC x7 σ5) (fun r6 σ7 => zlt r6 (fun v8 => zlt x7 (fun v9 => f_X10_leastTurn_90 a0 (f_X10_leastTurn_38 a0 n) x1 x2 x3 x4 v9 v8 x7 σ7)))))))) (f_X10_leastTurn_90 a0 (f_X10_leastTurn_38 a0 n) x1 x2 x3 x4 x5 x6 x7 σ))
theorem t_X10_leastTurn_38 (X : zX) (d : Nat) (hd : 3 ≤ d + 1) (a0 : Nat) (h0 : WC.2 a0 = (10, 0)) : ∀ (n : Nat) (x1 : Int32) (x2 : Int32) (x3 : Int32) (x4 : Int32) (x5 : Int32) (x6 : Int32) (x7 : Int32) (σ : zS), zK X WC (zrm (d + 1)) M_X10_leastTurn (zZ X WC zeI) 38 [some (.ref a0), some (.int x1), some (.int x2), some (.int x3), some (.int x4), some (.int x5), some (.int x6), some (.int x7)] [] σ (f_X10_leastTurn_38 a0 n x1 x2 x3 x4 x5 x6 x7 σ) := by
  intro n
  induction n with
  | zero => intro x1 x2 x3 x4 x5 x6 x7 σ; exact z_none
  | succ n ih =>
    intro x1 x2 x3 x4 x5 x6 x7 σ
    rw [f_X10_leastTurn_38]
    refine z_iload7 22 40 rfl rfl ?_
    refine z_iload3 23 41 rfl rfl ?_
    refine z_icmp_gt 24 44 96 rfl rfl (by decide) ?_ ?_
    · refine z_iload5 52 98 rfl rfl ?_
      exact z_iret 53 rfl rfl
    · refine z_iload7 25 46 rfl rfl ?_
      refine z_iload3 26 47 rfl rfl ?_
      refine z_iconst 27 48 rfl rfl ci_m1 ?_
      refine z_ixor 28 49 rfl rfl ?_
      refine z_iand 29 50 rfl rfl ?_
      refine z_if_ne 30 53 90 rfl rfl (by decide) ?_ ?_
      · refine z_iload7 31 55 rfl rfl ?_
        refine z_cS1I 32 58 rfl rfl zl_X10_208 F_J6_bitCount (zR_rm (by omega)) (c_J6_bitCount X WC d x7 σ) rfl (Nat.le_of_ble_eq_true rfl) (fun r2 σ3 => ?_)
        refine z_iload6 33 60 rfl rfl ?_
        refine z_icmp_ge 34 63 90 rfl rfl (by decide) ?_ ?_
        · exact t_X10_leastTurn_90 X d hd a0 h0 (f_X10_leastTurn_38 a0 n) ih x1 x2 x3 x4 x5 x6 x7 σ3
        · refine z_aload0 35 64 rfl rfl ?_
          refine z_iload1 36 65 rfl rfl ?_
          refine z_iload2 37 66 rfl rfl ?_
          refine z_iload7 38 68 rfl rfl ?_
          refine z_iconst 39 69 rfl rfl ci_m1 ?_
          refine z_ixor 40 70 rfl rfl ?_
          refine z_iand 41 71 rfl rfl ?_
          refine z_cV2I 42 74 rfl rfl zl_X10_191 F_X10_verdict (zR_rm (by omega)) (c_X10_verdict X d (by omega) a0 x1 (x2 &&& (x7 ^^^ (-1 : Int32))) σ3) ⟨by decide, rfl, rfl⟩ h0 rfl (Nat.le_of_ble_eq_true rfl) (fun r4 σ5 => ?_)
          refine z_iload4 43 76 rfl rfl ?_
          refine z_icmp_eq 44 79 90 rfl rfl (by decide) ?_ ?_
          · exact t_X10_leastTurn_90 X d hd a0 h0 (f_X10_leastTurn_38 a0 n) ih x1 x2 x3 x4 x5 x6 x7 σ5
          · refine z_iload7 45 81 rfl rfl ?_
            refine z_cS1I 46 84 rfl rfl zl_X10_208 F_J6_bitCount (zR_rm (by omega)) (c_J6_bitCount X WC d x7 σ5) rfl (Nat.le_of_ble_eq_true rfl) (fun r6 σ7 => ?_)
            refine z_istore6 47 86 rfl rfl rfl (fun v8 => ?_)
            refine z_iload7 48 88 rfl rfl ?_
            refine z_istore5 49 90 rfl rfl rfl (fun v9 => ?_)
            exact t_X10_leastTurn_90 X d hd a0 h0 (f_X10_leastTurn_38 a0 n) ih x1 x2 x3 x4 v9 v8 x7 σ7
      · exact t_X10_leastTurn_90 X d hd a0 h0 (f_X10_leastTurn_38 a0 n) ih x1 x2 x3 x4 x5 x6 x7 σ
def f_X10_leastTurn (a0 : Nat) (x1 : Int32) (σ : zS) : Option (Int32 × zS) := zck (WC.2 a0 = (10, 0)) (zck (WC.2 (σ.2 a0 3) = (6, 0)) (zbd (f_X6_read (σ.2 a0 3) σ) (fun r11 σ12 => zlt r11 (fun v13 => zck (WC.2 (σ12.2 a0 3) = (6, 0)) (zbd (f_X6_linesOf (σ12.2 a0 3) x1 σ12) (fun r15 σ16 => zlt (v13 &&& r15) (fun v17 => zbd (f_X10_verdict a0 x1 v13 σ16) (fun r18 σ19 => zlt r18 (fun v20 => zlt (-2 : Int32) (fun v21 => zlt (9 : Int32) (fun v22 => zlt (1 : Int32) (fun v23 => f_X10_leastTurn_38 a0 FU x1 v13 v17 v20 v21 v22 v23 σ19))))))))))))
theorem c_X10_leastTurn (X : zX) (d : Nat) (hd : 3 ≤ d) (a0 : Nat) (x1 : Int32) (σ : zS) : ∀ (r : Int32) (σ' : zS), f_X10_leastTurn a0 x1 σ = some (r, σ') → zCN X WC d M_X10_leastTurn [.ref a0, .int x1] σ (zeI r, σ') := by
  obtain ⟨d, rfl⟩ : ∃ e, d = e + 1 := ⟨d - 1, by omega⟩
  refine z_entry [.ref a0, .int x1] (by decide +kernel) T_X10_leastTurn (Nat.le_of_ble_eq_true rfl) ?_
  show zK X WC (zrm (d + 1)) M_X10_leastTurn (zZ X WC zeI) 0 [some (.ref a0), some (.int x1), none, none, none, none, none, none] [] σ (f_X10_leastTurn a0 x1 σ)
  unfold f_X10_leastTurn
  refine z_ck (fun h0 => ?_)
  refine z_aload0 0 1 rfl rfl ?_
  refine z_getR 1 4 3 rfl rfl zf_X10_29 rfl h0 ?_
  refine z_ck (fun h10 => ?_)
  refine z_cV0I 2 7 rfl rfl zl_X10_181 F_X6_read (zR_rm (by omega)) (c_X6_read X d (σ.2 a0 3) σ) ⟨by decide, rfl, rfl⟩ h10 rfl (Nat.le_of_ble_eq_true rfl) (fun r11 σ12 => ?_)
  refine z_istore2 3 8 rfl rfl rfl (fun v13 => ?_)
  refine z_iload2 4 9 rfl rfl ?_
  refine z_aload0 5 10 rfl rfl ?_
  refine z_getR 6 13 3 rfl rfl zf_X10_29 rfl h0 ?_
  refine z_iload1 7 14 rfl rfl ?_
  refine z_ck (fun h14 => ?_)
  refine z_cV1I 8 17 rfl rfl zl_X10_366 F_X6_linesOf (zR_rm (by omega)) (c_X6_linesOf X d (σ12.2 a0 3) x1 σ12) ⟨by decide, rfl, rfl⟩ h14 rfl (Nat.le_of_ble_eq_true rfl) (fun r15 σ16 => ?_)
  refine z_iand 9 18 rfl rfl ?_
  refine z_istore3 10 19 rfl rfl rfl (fun v17 => ?_)
  refine z_aload0 11 20 rfl rfl ?_
  refine z_iload1 12 21 rfl rfl ?_
  refine z_iload2 13 22 rfl rfl ?_
  refine z_cV2I 14 25 rfl rfl zl_X10_191 F_X10_verdict (zR_rm (by omega)) (c_X10_verdict X d (by omega) a0 x1 v13 σ16) ⟨by decide, rfl, rfl⟩ h0 rfl (Nat.le_of_ble_eq_true rfl) (fun r18 σ19 => ?_)
  refine z_istore4 15 27 rfl rfl rfl (fun v20 => ?_)
  refine z_bipush 16 29 rfl rfl cb_m2 ?_
  refine z_istore5 17 31 rfl rfl rfl (fun v21 => ?_)
  refine z_bipush 18 33 rfl rfl cb_9 ?_
  refine z_istore6 19 35 rfl rfl rfl (fun v22 => ?_)
  refine z_iconst 20 36 rfl rfl ci_1 ?_
  refine z_istore7 21 38 rfl rfl rfl (fun v23 => ?_)
  exact t_X10_leastTurn_38 X d hd a0 h0  FU x1 v13 v17 v20 v21 v22 v23 σ19
def f_X10_turn (a0 : Nat) (x1 : Int32) (σ : zS) : Option (Int32 × zS) := zck (WC.2 a0 = (10, 0)) (zbd (f_X10_isMatter a0 x1 σ) (fun r1 σ2 => zbr (r1 = 0) (zbd (f_X10_refuse a0 (1 : Int32) σ2) (fun r3 σ4 => some (r3, σ4))) (zbd (f_X10_leastTurn a0 x1 σ2) (fun r5 σ6 => zbd (f_X10_grant a0 r5 σ6) (fun r7 σ8 => some (r7, σ8))))))
theorem c_X10_turn (X : zX) (d : Nat) (hd : 4 ≤ d) (a0 : Nat) (x1 : Int32) (σ : zS) : ∀ (r : Int32) (σ' : zS), f_X10_turn a0 x1 σ = some (r, σ') → zCN X WC d M_X10_turn [.ref a0, .int x1] σ (zeI r, σ') := by
  obtain ⟨d, rfl⟩ : ∃ e, d = e + 1 := ⟨d - 1, by omega⟩
  refine z_entry [.ref a0, .int x1] (by decide +kernel) T_X10_turn (Nat.le_of_ble_eq_true rfl) ?_
  show zK X WC (zrm (d + 1)) M_X10_turn (zZ X WC zeI) 0 [some (.ref a0), some (.int x1)] [] σ (f_X10_turn a0 x1 σ)
  unfold f_X10_turn
  refine z_ck (fun h0 => ?_)
  refine z_aload0 0 1 rfl rfl ?_
  refine z_iload1 1 2 rfl rfl ?_
  refine z_cV1I 2 5 rfl rfl zl_X10_188 F_X10_isMatter (zR_rm (by omega)) (c_X10_isMatter X d a0 x1 σ) ⟨by decide, rfl, rfl⟩ h0 rfl (Nat.le_of_ble_eq_true rfl) (fun r1 σ2 => ?_)
  refine z_if_eq 3 8 20 rfl rfl (by decide) ?_ ?_
  · refine z_aload0 10 21 rfl rfl ?_
    refine z_iconst 11 22 rfl rfl ci_1 ?_
    refine z_cV1I 12 25 rfl rfl zl_X10_82 F_X10_refuse (zR_rm (by omega)) (c_X10_refuse X d a0 (1 : Int32) σ2) ⟨by decide, rfl, rfl⟩ h0 rfl (Nat.le_of_ble_eq_true rfl) (fun r3 σ4 => ?_)
    exact z_iret 13 rfl rfl
  · refine z_aload0 4 9 rfl rfl ?_
    refine z_aload0 5 10 rfl rfl ?_
    refine z_iload1 6 11 rfl rfl ?_
    refine z_cV1I 7 14 rfl rfl zl_X10_220 F_X10_leastTurn (zR_rm (by omega)) (c_X10_leastTurn X d (by omega) a0 x1 σ2) ⟨by decide, rfl, rfl⟩ h0 rfl (Nat.le_of_ble_eq_true rfl) (fun r5 σ6 => ?_)
    refine z_cV1I 8 17 rfl rfl zl_X10_121 F_X10_grant (zR_rm (by omega)) (c_X10_grant X d a0 r5 σ6) ⟨by decide, rfl, rfl⟩ h0 rfl (Nat.le_of_ble_eq_true rfl) (fun r7 σ8 => ?_)
    refine z_goto 9 25 rfl (by decide) ?_
    exact z_iret 13 rfl rfl
def f_X10_weakest_63 (a0 : Nat) (H21 : Int32 → Int32 → Int32 → zS → Option (Int32 × zS)) (x1 : Int32) (x2 : Int32) (x3 : Int32) (σ : zS) : Option (Int32 × zS) := zlt (x3 + (1 : Int32)) (fun v1 => H21 x1 x2 v1 σ)
theorem t_X10_weakest_63 (X : zX) (d : Nat) (hd : 4 ≤ d + 1) (a0 : Nat) (h0 : WC.2 a0 = (10, 0)) (H21 : Int32 → Int32 → Int32 → zS → Option (Int32 × zS)) (hH21 : ∀ (x1 : Int32) (x2 : Int32) (x3 : Int32) (σ : zS), zK X WC (zrm (d + 1)) M_X10_weakest (zZ X WC zeI) 21 [some (.ref a0), some (.int x1), some (.int x2), some (.int x3), none] [] σ (H21 x1 x2 x3 σ)) (x1 : Int32) (x2 : Int32) (x3 : Int32) (σ : zS) : zK X WC (zrm (d + 1)) M_X10_weakest (zZ X WC zeI) 63 [some (.ref a0), some (.int x1), some (.int x2), some (.int x3), none] [] σ (f_X10_weakest_63 a0 H21 x1 x2 x3 σ) := by
  unfold f_X10_weakest_63
  refine z_iinc3 34 66 rfl rfl ci_1 rfl (fun v1 => ?_)
  refine z_goto 35 21 rfl (by decide) ?_
  exact hH21 x1 x2 v1 σ
def f_X10_weakest_21 (a0 : Nat) : Nat → Int32 → Int32 → Int32 → zS → Option (Int32 × zS)
  | 0, _, _, _, _ => none
  | n + 1, x1, x2, x3, σ => zck (WC.2 (σ.2 a0 8) = (3, 0)) (zbr ((σ.1 (σ.2 a0 8) 13) ≤ x3) (zbd (f_X10_grant a0 x1 σ) (fun r3 σ4 => some (r3, σ4))) (zbd (f_X10_leastTurn a0 x3 σ) (fun r5 σ6 => zlt r5 (fun v7 => zbr (v7 = (-2 : Int32)) (f_X10_weakest_63 a0 (f_X10_weakest_21 a0 n) x1 x2 x3 σ6) (zbd (f_J6_bitCount WC v7 σ6) (fun r8 σ9 => zbr (x2 ≤ r8) (f_X10_weakest_63 a0 (f_X10_weakest_21 a0 n) x1 x2 x3 σ9) (zbd (f_J6_bitCount WC v7 σ9) (fun r10 σ11 => zlt r10 (fun v12 => zlt x3 (fun v13 => f_X10_weakest_63 a0 (f_X10_weakest_21 a0 n) v13 v12 x3 σ11))))))))))
theorem t_X10_weakest_21 (X : zX) (d : Nat) (hd : 4 ≤ d + 1) (a0 : Nat) (h0 : WC.2 a0 = (10, 0)) : ∀ (n : Nat) (x1 : Int32) (x2 : Int32) (x3 : Int32) (σ : zS), zK X WC (zrm (d + 1)) M_X10_weakest (zZ X WC zeI) 21 [some (.ref a0), some (.int x1), some (.int x2), some (.int x3), none] [] σ (f_X10_weakest_21 a0 n x1 x2 x3 σ) := by
  intro n
  induction n with
  | zero => intro x1 x2 x3 σ; exact z_none
  | succ n ih =>
    intro x1 x2 x3 σ
    rw [f_X10_weakest_21]
    refine z_iload3 13 22 rfl rfl ?_
    refine z_aload0 14 23 rfl rfl ?_
    refine z_getR 15 26 8 rfl rfl zf_X10_61 rfl h0 ?_
    refine z_ck (fun h2 => ?_)
    refine z_getI 16 29 13 rfl rfl zf_X10_202 rfl h2 ?_
    refine z_icmp_ge 17 32 69 rfl rfl (by decide) ?_ ?_
    · refine z_aload0 36 70 rfl rfl ?_
      refine z_iload1 37 71 rfl rfl ?_
      refine z_cV1I 38 74 rfl rfl zl_X10_121 F_X10_grant (zR_rm (by omega)) (c_X10_grant X d a0 x1 σ) ⟨by decide, rfl, rfl⟩ h0 rfl (Nat.le_of_ble_eq_true rfl) (fun r3 σ4 => ?_)
      exact z_iret 39 rfl rfl
    · refine z_aload0 18 33 rfl rfl ?_
      refine z_iload3 19 34 rfl rfl ?_
      refine z_cV1I 20 37 rfl rfl zl_X10_220 F_X10_leastTurn (zR_rm (by omega)) (c_X10_leastTurn X d (by omega) a0 x3 σ) ⟨by decide, rfl, rfl⟩ h0 rfl (Nat.le_of_ble_eq_true rfl) (fun r5 σ6 => ?_)
      refine z_istore4 21 39 rfl rfl rfl (fun v7 => ?_)
      refine z_iload4 22 41 rfl rfl ?_
      refine z_bipush 23 43 rfl rfl cb_m2 ?_
      refine z_icmp_eq 24 46 63 rfl rfl (by decide) ?_ ?_
      · exact z_wk (zle_e (zle_e (zle_e (zle_e (zle_n zle_0))))) (t_X10_weakest_63 X d hd a0 h0 (f_X10_weakest_21 a0 n) ih x1 x2 x3 σ6)
      · refine z_iload4 25 48 rfl rfl ?_
        refine z_cS1I 26 51 rfl rfl zl_X10_208 F_J6_bitCount (zR_rm (by omega)) (c_J6_bitCount X WC d v7 σ6) rfl (Nat.le_of_ble_eq_true rfl) (fun r8 σ9 => ?_)
        refine z_iload2 27 52 rfl rfl ?_
        refine z_icmp_ge 28 55 63 rfl rfl (by decide) ?_ ?_
        · exact z_wk (zle_e (zle_e (zle_e (zle_e (zle_n zle_0))))) (t_X10_weakest_63 X d hd a0 h0 (f_X10_weakest_21 a0 n) ih x1 x2 x3 σ9)
        · refine z_iload4 29 57 rfl rfl ?_
          refine z_cS1I 30 60 rfl rfl zl_X10_208 F_J6_bitCount (zR_rm (by omega)) (c_J6_bitCount X WC d v7 σ9) rfl (Nat.le_of_ble_eq_true rfl) (fun r10 σ11 => ?_)
          refine z_istore2 31 61 rfl rfl rfl (fun v12 => ?_)
          refine z_iload3 32 62 rfl rfl ?_
          refine z_istore1 33 63 rfl rfl rfl (fun v13 => ?_)
          exact z_wk (zle_e (zle_e (zle_e (zle_e (zle_n zle_0))))) (t_X10_weakest_63 X d hd a0 h0 (f_X10_weakest_21 a0 n) ih v13 v12 x3 σ11)
def f_X10_weakest (a0 : Nat) (σ : zS) : Option (Int32 × zS) := zck (WC.2 a0 = (10, 0)) (zbd (f_X10_noLetter a0 σ) (fun r14 σ15 => zbr (r14 = 0) (zlt (-2 : Int32) (fun v16 => zlt (9 : Int32) (fun v17 => zlt (0 : Int32) (fun v18 => f_X10_weakest_21 a0 FU v16 v17 v18 σ15)))) (zbd (f_X10_refuse a0 (1 : Int32) σ15) (fun r19 σ20 => some (r19, σ20)))))
theorem c_X10_weakest (X : zX) (d : Nat) (hd : 4 ≤ d) (a0 : Nat) (σ : zS) : ∀ (r : Int32) (σ' : zS), f_X10_weakest a0 σ = some (r, σ') → zCN X WC d M_X10_weakest [.ref a0] σ (zeI r, σ') := by
  obtain ⟨d, rfl⟩ : ∃ e, d = e + 1 := ⟨d - 1, by omega⟩
  refine z_entry [.ref a0] (by decide +kernel) T_X10_weakest (Nat.le_of_ble_eq_true rfl) ?_
  show zK X WC (zrm (d + 1)) M_X10_weakest (zZ X WC zeI) 0 [some (.ref a0), none, none, none, none] [] σ (f_X10_weakest a0 σ)
  unfold f_X10_weakest
  refine z_ck (fun h0 => ?_)
  refine z_aload0 0 1 rfl rfl ?_
  refine z_cV0I 1 4 rfl rfl zl_X10_198 F_X10_noLetter (zR_rm (by omega)) (c_X10_noLetter X d a0 σ) ⟨by decide, rfl, rfl⟩ h0 rfl (Nat.le_of_ble_eq_true rfl) (fun r14 σ15 => ?_)
  refine z_if_eq 2 7 13 rfl rfl (by decide) ?_ ?_
  · refine z_bipush 7 15 rfl rfl cb_m2 ?_
    refine z_istore1 8 16 rfl rfl rfl (fun v16 => ?_)
    refine z_bipush 9 18 rfl rfl cb_9 ?_
    refine z_istore2 10 19 rfl rfl rfl (fun v17 => ?_)
    refine z_iconst 11 20 rfl rfl ci_0 ?_
    refine z_istore3 12 21 rfl rfl rfl (fun v18 => ?_)
    exact t_X10_weakest_21 X d hd a0 h0  FU v16 v17 v18 σ15
  · refine z_aload0 3 8 rfl rfl ?_
    refine z_iconst 4 9 rfl rfl ci_1 ?_
    refine z_cV1I 5 12 rfl rfl zl_X10_82 F_X10_refuse (zR_rm (by omega)) (c_X10_refuse X d a0 (1 : Int32) σ15) ⟨by decide, rfl, rfl⟩ h0 rfl (Nat.le_of_ble_eq_true rfl) (fun r19 σ20 => ?_)
    exact z_iret 6 rfl rfl
def f_X10_openPlaces_43 (a0 : Nat) (H4 : Int32 → Int32 → zS → Option (Int32 × zS)) (x1 : Int32) (x2 : Int32) (σ : zS) : Option (Int32 × zS) := zlt (x2 + (1 : Int32)) (fun v1 => H4 x1 v1 σ)
theorem t_X10_openPlaces_43 (X : zX) (d : Nat) (hd : 2 ≤ d + 1) (a0 : Nat) (h0 : WC.2 a0 = (10, 0)) (H4 : Int32 → Int32 → zS → Option (Int32 × zS)) (hH4 : ∀ (x1 : Int32) (x2 : Int32) (σ : zS), zK X WC (zrm (d + 1)) M_X10_openPlaces (zZ X WC zeI) 4 [some (.ref a0), some (.int x1), some (.int x2)] [] σ (H4 x1 x2 σ)) (x1 : Int32) (x2 : Int32) (σ : zS) : zK X WC (zrm (d + 1)) M_X10_openPlaces (zZ X WC zeI) 43 [some (.ref a0), some (.int x1), some (.int x2)] [] σ (f_X10_openPlaces_43 a0 H4 x1 x2 σ) := by
  unfold f_X10_openPlaces_43
  refine z_iinc2 27 46 rfl rfl ci_1 rfl (fun v1 => ?_)
  refine z_goto 28 4 rfl (by decide) ?_
  exact hH4 x1 v1 σ
def f_X10_openPlaces_4 (a0 : Nat) : Nat → Int32 → Int32 → zS → Option (Int32 × zS)
  | 0, _, _, _ => none
  | n + 1, x1, x2, σ => zck (WC.2 (σ.2 a0 8) = (3, 0)) (zbr ((σ.1 (σ.2 a0 8) 10) ≤ x2) (some (x1, σ)) (zck (WC.2 (σ.2 a0 3) = (6, 0)) (zbr ((((σ.1 (σ.2 a0 3) 7) >>> (x2 &&& 31)) &&& (1 : Int32)) = 0) (zbd (f_X10_roomAt a0 x2 σ) (fun r4 σ5 => zbr (r4 ≤ 0) (f_X10_openPlaces_43 a0 (f_X10_openPlaces_4 a0 n) x1 x2 σ5) (zlt (x1 ||| ((1 : Int32) <<< (x2 &&& 31))) (fun v6 => f_X10_openPlaces_43 a0 (f_X10_openPlaces_4 a0 n) v6 x2 σ5)))) (f_X10_openPlaces_43 a0 (f_X10_openPlaces_4 a0 n) x1 x2 σ))))
theorem t_X10_openPlaces_4 (X : zX) (d : Nat) (hd : 2 ≤ d + 1) (a0 : Nat) (h0 : WC.2 a0 = (10, 0)) : ∀ (n : Nat) (x1 : Int32) (x2 : Int32) (σ : zS), zK X WC (zrm (d + 1)) M_X10_openPlaces (zZ X WC zeI) 4 [some (.ref a0), some (.int x1), some (.int x2)] [] σ (f_X10_openPlaces_4 a0 n x1 x2 σ) := by
  intro n
  induction n with
  | zero => intro x1 x2 σ; exact z_none
  | succ n ih =>
    intro x1 x2 σ
    rw [f_X10_openPlaces_4]
    refine z_iload2 4 5 rfl rfl ?_
    refine z_aload0 5 6 rfl rfl ?_
    refine z_getR 6 9 8 rfl rfl zf_X10_61 rfl h0 ?_
    refine z_ck (fun h2 => ?_)
    refine z_getI 7 12 10 rfl rfl zf_X10_118 rfl h2 ?_
    refine z_icmp_ge 8 15 49 rfl rfl (by decide) ?_ ?_
    · refine z_iload1 29 50 rfl rfl ?_
      exact z_iret 30 rfl rfl
    · refine z_aload0 9 16 rfl rfl ?_
      refine z_getR 10 19 3 rfl rfl zf_X10_29 rfl h0 ?_
      refine z_ck (fun h3 => ?_)
      refine z_getI 11 22 7 rfl rfl zf_X10_147 rfl h3 ?_
      refine z_iload2 12 23 rfl rfl ?_
      refine z_ishr 13 24 rfl rfl ?_
      refine z_iconst 14 25 rfl rfl ci_1 ?_
      refine z_iand 15 26 rfl rfl ?_
      refine z_if_ne 16 29 43 rfl rfl (by decide) ?_ ?_
      · refine z_aload0 17 30 rfl rfl ?_
        refine z_iload2 18 31 rfl rfl ?_
        refine z_cV1I 19 34 rfl rfl zl_X10_138 F_X10_roomAt (zR_rm (by omega)) (c_X10_roomAt X d (by omega) a0 x2 σ) ⟨by decide, rfl, rfl⟩ h0 rfl (Nat.le_of_ble_eq_true rfl) (fun r4 σ5 => ?_)
        refine z_if_le 20 37 43 rfl rfl (by decide) ?_ ?_
        · exact t_X10_openPlaces_43 X d hd a0 h0 (f_X10_openPlaces_4 a0 n) ih x1 x2 σ5
        · refine z_iload1 21 38 rfl rfl ?_
          refine z_iconst 22 39 rfl rfl ci_1 ?_
          refine z_iload2 23 40 rfl rfl ?_
          refine z_ishl 24 41 rfl rfl ?_
          refine z_ior 25 42 rfl rfl ?_
          refine z_istore1 26 43 rfl rfl rfl (fun v6 => ?_)
          exact t_X10_openPlaces_43 X d hd a0 h0 (f_X10_openPlaces_4 a0 n) ih v6 x2 σ5
      · exact t_X10_openPlaces_43 X d hd a0 h0 (f_X10_openPlaces_4 a0 n) ih x1 x2 σ
def f_X10_openPlaces (a0 : Nat) (σ : zS) : Option (Int32 × zS) := zck (WC.2 a0 = (10, 0)) (zlt (0 : Int32) (fun v7 => zlt (0 : Int32) (fun v8 => f_X10_openPlaces_4 a0 FU v7 v8 σ)))
theorem c_X10_openPlaces (X : zX) (d : Nat) (hd : 2 ≤ d) (a0 : Nat) (σ : zS) : ∀ (r : Int32) (σ' : zS), f_X10_openPlaces a0 σ = some (r, σ') → zCN X WC d M_X10_openPlaces [.ref a0] σ (zeI r, σ') := by
  obtain ⟨d, rfl⟩ : ∃ e, d = e + 1 := ⟨d - 1, by omega⟩
  refine z_entry [.ref a0] (by decide +kernel) T_X10_openPlaces (Nat.le_of_ble_eq_true rfl) ?_
  show zK X WC (zrm (d + 1)) M_X10_openPlaces (zZ X WC zeI) 0 [some (.ref a0), none, none] [] σ (f_X10_openPlaces a0 σ)
  unfold f_X10_openPlaces
  refine z_ck (fun h0 => ?_)
  refine z_iconst 0 1 rfl rfl ci_0 ?_
  refine z_istore1 1 2 rfl rfl rfl (fun v7 => ?_)
  refine z_iconst 2 3 rfl rfl ci_0 ?_
  refine z_istore2 3 4 rfl rfl rfl (fun v8 => ?_)
  exact t_X10_openPlaces_4 X d hd a0 h0  FU v7 v8 σ
def f_X10_holds_112 (a0 : Nat) (H42 : Int32 → Int32 → Int32 → Int32 → zS → Option (Int32 × zS)) (x3 : Int32) (x4 : Int32) (x5 : Int32) (x6 : Int32) (σ : zS) : Option (Int32 × zS) := zlt (x6 + (1 : Int32)) (fun v1 => H42 x3 x4 x5 v1 σ)
theorem t_X10_holds_112 (X : zX) (d : Nat) (hd : 3 ≤ d + 1) (a0 : Nat) (h0 : WC.2 a0 = (10, 0)) (H42 : Int32 → Int32 → Int32 → Int32 → zS → Option (Int32 × zS)) (hH42 : ∀ (x3 : Int32) (x4 : Int32) (x5 : Int32) (x6 : Int32) (σ : zS), zK X WC (zrm (d + 1)) M_X10_holds (zZ X WC zeI) 42 [some (.ref a0), none, none, some (.int x3), some (.int x4), some (.int x5), some (.int x6), none] [] σ (H42 x3 x4 x5 x6 σ)) (x3 : Int32) (x4 : Int32) (x5 : Int32) (x6 : Int32) (σ : zS) : zK X WC (zrm (d + 1)) M_X10_holds (zZ X WC zeI) 112 [some (.ref a0), none, none, some (.int x3), some (.int x4), some (.int x5), some (.int x6), none] [] σ (f_X10_holds_112 a0 H42 x3 x4 x5 x6 σ) := by
  unfold f_X10_holds_112
  refine z_iinc6 60 115 rfl rfl ci_1 rfl (fun v1 => ?_)
  refine z_goto 61 42 rfl (by decide) ?_
  exact hH42 x3 x4 x5 v1 σ
def f_X10_holds_80 (a0 : Nat) (H42 : Int32 → Int32 → Int32 → Int32 → zS → Option (Int32 × zS)) (x3 : Int32) (x4 : Int32) (x5 : Int32) (x6 : Int32) (s0 : Int32) (σ : zS) : Option (Int32 × zS) := zlt s0 (fun v2 => zbr (v2 = 0) (f_X10_holds_112 a0 H42 x3 x4 x5 x6 σ) (zck (WC.2 (σ.2 a0 1) = (5, 0)) (zbd (f_X5_unbeaten (σ.2 a0 1) (x3 ||| x4) σ) (fun r4 σ5 => zbr (r4 = x6) (zlt (x5 ||| ((1 : Int32) <<< (x6 &&& 31))) (fun v6 => f_X10_holds_112 a0 H42 x3 x4 v6 x6 σ5)) (f_X10_holds_112 a0 H42 x3 x4 x5 x6 σ5)))))
theorem t_X10_holds_80 (X : zX) (d : Nat) (hd : 3 ≤ d + 1) (a0 : Nat) (h0 : WC.2 a0 = (10, 0)) (H42 : Int32 → Int32 → Int32 → Int32 → zS → Option (Int32 × zS)) (hH42 : ∀ (x3 : Int32) (x4 : Int32) (x5 : Int32) (x6 : Int32) (σ : zS), zK X WC (zrm (d + 1)) M_X10_holds (zZ X WC zeI) 42 [some (.ref a0), none, none, some (.int x3), some (.int x4), some (.int x5), some (.int x6), none] [] σ (H42 x3 x4 x5 x6 σ)) (x3 : Int32) (x4 : Int32) (x5 : Int32) (x6 : Int32) (s0 : Int32) (σ : zS) : zK X WC (zrm (d + 1)) M_X10_holds (zZ X WC zeI) 80 [some (.ref a0), none, none, some (.int x3), some (.int x4), some (.int x5), some (.int x6), none] [.int s0] σ (f_X10_holds_80 a0 H42 x3 x4 x5 x6 s0 σ) := by
  unfold f_X10_holds_80
  refine z_istore7 43 82 rfl rfl rfl (fun v2 => ?_)
  refine z_iload7 44 84 rfl rfl ?_
  refine z_if_eq 45 87 112 rfl rfl (by decide) ?_ ?_
  · exact z_wk (zle_e (zle_e (zle_e (zle_e (zle_e (zle_e (zle_e (zle_n zle_0)))))))) (t_X10_holds_112 X d hd a0 h0 H42 hH42 x3 x4 x5 x6 σ)
  · refine z_aload0 46 88 rfl rfl ?_
    refine z_getR 47 91 1 rfl rfl zf_X10_19 rfl h0 ?_
    refine z_iload3 48 92 rfl rfl ?_
    refine z_iload4 49 94 rfl rfl ?_
    refine z_ior 50 95 rfl rfl ?_
    refine z_ck (fun h3 => ?_)
    refine z_cV1I 51 98 rfl rfl zl_X10_229 F_X5_unbeaten (zR_rm (by omega)) (c_X5_unbeaten X d (σ.2 a0 1) (x3 ||| x4) σ) ⟨by decide, rfl, rfl⟩ h3 rfl (Nat.le_of_ble_eq_true rfl) (fun r4 σ5 => ?_)
    refine z_iload6 52 100 rfl rfl ?_
    refine z_icmp_ne 53 103 112 rfl rfl (by decide) ?_ ?_
    · refine z_iload5 54 105 rfl rfl ?_
      refine z_iconst 55 106 rfl rfl ci_1 ?_
      refine z_iload6 56 108 rfl rfl ?_
      refine z_ishl 57 109 rfl rfl ?_
      refine z_ior 58 110 rfl rfl ?_
      refine z_istore5 59 112 rfl rfl rfl (fun v6 => ?_)
      exact z_wk (zle_e (zle_e (zle_e (zle_e (zle_e (zle_e (zle_e (zle_n zle_0)))))))) (t_X10_holds_112 X d hd a0 h0 H42 hH42 x3 x4 v6 x6 σ5)
    · exact z_wk (zle_e (zle_e (zle_e (zle_e (zle_e (zle_e (zle_e (zle_n zle_0)))))))) (t_X10_holds_112 X d hd a0 h0 H42 hH42 x3 x4 x5 x6 σ5)
def f_X10_holds_79 (a0 : Nat) (H42 : Int32 → Int32 → Int32 → Int32 → zS → Option (Int32 × zS)) (x3 : Int32) (x4 : Int32) (x5 : Int32) (x6 : Int32) (σ : zS) : Option (Int32 × zS) := f_X10_holds_80 a0 H42 x3 x4 x5 x6 (0 : Int32) σ
theorem t_X10_holds_79 (X : zX) (d : Nat) (hd : 3 ≤ d + 1) (a0 : Nat) (h0 : WC.2 a0 = (10, 0)) (H42 : Int32 → Int32 → Int32 → Int32 → zS → Option (Int32 × zS)) (hH42 : ∀ (x3 : Int32) (x4 : Int32) (x5 : Int32) (x6 : Int32) (σ : zS), zK X WC (zrm (d + 1)) M_X10_holds (zZ X WC zeI) 42 [some (.ref a0), none, none, some (.int x3), some (.int x4), some (.int x5), some (.int x6), none] [] σ (H42 x3 x4 x5 x6 σ)) (x3 : Int32) (x4 : Int32) (x5 : Int32) (x6 : Int32) (σ : zS) : zK X WC (zrm (d + 1)) M_X10_holds (zZ X WC zeI) 79 [some (.ref a0), none, none, some (.int x3), some (.int x4), some (.int x5), some (.int x6), none] [] σ (f_X10_holds_79 a0 H42 x3 x4 x5 x6 σ) := by
  unfold f_X10_holds_79
  refine z_iconst 42 80 rfl rfl ci_0 ?_
  exact t_X10_holds_80 X d hd a0 h0 H42 hH42 x3 x4 x5 x6 (0 : Int32) σ
def f_X10_holds_42 (a0 : Nat) : Nat → Int32 → Int32 → Int32 → Int32 → zS → Option (Int32 × zS)
  | 0, _, _, _, _, _ => none
  | n + 1, x3, x4, x5, x6, σ => zck (WC.2 (σ.2 a0 8) = (3, 0)) (zbr ((σ.1 (σ.2 a0 8) 10) ≤ x6) (zbd (f_X10_grant a0 x5 σ) (fun r8 σ9 => some (r8, σ9))) (zbr (((x4 >>> (x6 &&& 31)) &&& (1 : Int32)) = (1 : Int32)) (zbd (f_X10_roomAt a0 x6 σ) (fun r10 σ11 => zbr (r10 = (1 : Int32)) (f_X10_holds_80 a0 (f_X10_holds_42 a0 n) x3 x4 x5 x6 (1 : Int32) σ11) (f_X10_holds_79 a0 (f_X10_holds_42 a0 n) x3 x4 x5 x6 σ11))) (f_X10_holds_79 a0 (f_X10_holds_42 a0 n) x3 x4 x5 x6 σ)))
theorem t_X10_holds_42 (X : zX) (d : Nat) (hd : 3 ≤ d + 1) (a0 : Nat) (h0 : WC.2 a0 = (10, 0)) : ∀ (n : Nat) (x3 : Int32) (x4 : Int32) (x5 : Int32) (x6 : Int32) (σ : zS), zK X WC (zrm (d + 1)) M_X10_holds (zZ X WC zeI) 42 [some (.ref a0), none, none, some (.int x3), some (.int x4), some (.int x5), some (.int x6), none] [] σ (f_X10_holds_42 a0 n x3 x4 x5 x6 σ) := by
  intro n
  induction n with
  | zero => intro x3 x4 x5 x6 σ; exact z_none
  | succ n ih =>
    intro x3 x4 x5 x6 σ
    rw [f_X10_holds_42]
    refine z_iload6 23 44 rfl rfl ?_
    refine z_aload0 24 45 rfl rfl ?_
    refine z_getR 25 48 8 rfl rfl zf_X10_61 rfl h0 ?_
    refine z_ck (fun h7 => ?_)
    refine z_getI 26 51 10 rfl rfl zf_X10_118 rfl h7 ?_
    refine z_icmp_ge 27 54 118 rfl rfl (by decide) ?_ ?_
    · refine z_aload0 62 119 rfl rfl ?_
      refine z_iload5 63 121 rfl rfl ?_
      refine z_cV1I 64 124 rfl rfl zl_X10_121 F_X10_grant (zR_rm (by omega)) (c_X10_grant X d a0 x5 σ) ⟨by decide, rfl, rfl⟩ h0 rfl (Nat.le_of_ble_eq_true rfl) (fun r8 σ9 => ?_)
      exact z_iret 65 rfl rfl
    · refine z_iload4 28 56 rfl rfl ?_
      refine z_iload6 29 58 rfl rfl ?_
      refine z_ishr 30 59 rfl rfl ?_
      refine z_iconst 31 60 rfl rfl ci_1 ?_
      refine z_iand 32 61 rfl rfl ?_
      refine z_iconst 33 62 rfl rfl ci_1 ?_
      refine z_icmp_ne 34 65 79 rfl rfl (by decide) ?_ ?_
      · refine z_aload0 35 66 rfl rfl ?_
        refine z_iload6 36 68 rfl rfl ?_
        refine z_cV1I 37 71 rfl rfl zl_X10_138 F_X10_roomAt (zR_rm (by omega)) (c_X10_roomAt X d (by omega) a0 x6 σ) ⟨by decide, rfl, rfl⟩ h0 rfl (Nat.le_of_ble_eq_true rfl) (fun r10 σ11 => ?_)
        refine z_iconst 38 72 rfl rfl ci_1 ?_
        refine z_icmp_ne 39 75 79 rfl rfl (by decide) ?_ ?_
        · refine z_iconst 40 76 rfl rfl ci_1 ?_
          refine z_goto 41 80 rfl (by decide) ?_
          exact t_X10_holds_80 X d hd a0 h0 (f_X10_holds_42 a0 n) ih x3 x4 x5 x6 (1 : Int32) σ11
        · exact t_X10_holds_79 X d hd a0 h0 (f_X10_holds_42 a0 n) ih x3 x4 x5 x6 σ11
      · exact t_X10_holds_79 X d hd a0 h0 (f_X10_holds_42 a0 n) ih x3 x4 x5 x6 σ
def f_X10_holds (a0 : Nat) (x1 : Int32) (x2 : Int32) (σ : zS) : Option (Int32 × zS) := zck (WC.2 a0 = (10, 0)) (zbd (f_X10_isMatter a0 x1 σ) (fun r12 σ13 => zbr (r12 = 0) (zbd (f_X10_refuse a0 (1 : Int32) σ13) (fun r14 σ15 => some (r14, σ15))) (zck (WC.2 (σ13.2 a0 3) = (6, 0)) (zbd (f_X6_read (σ13.2 a0 3) σ13) (fun r17 σ18 => zbd (f_X6_placesOf (σ13.2 a0 3) x1 r17 σ18) (fun r19 σ20 => zlt r19 (fun v21 => zbd (f_X10_openPlaces a0 σ20) (fun r22 σ23 => zlt r22 (fun v24 => zlt (0 : Int32) (fun v25 => zlt (0 : Int32) (fun v26 => f_X10_holds_42 a0 FU v21 v24 v25 v26 σ23)))))))))))
theorem c_X10_holds (X : zX) (d : Nat) (hd : 3 ≤ d) (a0 : Nat) (x1 : Int32) (x2 : Int32) (σ : zS) : ∀ (r : Int32) (σ' : zS), f_X10_holds a0 x1 x2 σ = some (r, σ') → zCN X WC d M_X10_holds [.ref a0, .int x1, .int x2] σ (zeI r, σ') := by
  obtain ⟨d, rfl⟩ : ∃ e, d = e + 1 := ⟨d - 1, by omega⟩
  refine z_entry [.ref a0, .int x1, .int x2] (by decide +kernel) T_X10_holds (Nat.le_of_ble_eq_true rfl) ?_
  show zK X WC (zrm (d + 1)) M_X10_holds (zZ X WC zeI) 0 [some (.ref a0), some (.int x1), some (.int x2), none, none, none, none, none] [] σ (f_X10_holds a0 x1 x2 σ)
  unfold f_X10_holds
  refine z_ck (fun h0 => ?_)
  refine z_aload0 0 1 rfl rfl ?_
  refine z_iload1 1 2 rfl rfl ?_
  refine z_cV1I 2 5 rfl rfl zl_X10_188 F_X10_isMatter (zR_rm (by omega)) (c_X10_isMatter X d a0 x1 σ) ⟨by decide, rfl, rfl⟩ h0 rfl (Nat.le_of_ble_eq_true rfl) (fun r12 σ13 => ?_)
  refine z_if_ne 3 8 14 rfl rfl (by decide) ?_ ?_
  · refine z_aload0 4 9 rfl rfl ?_
    refine z_iconst 5 10 rfl rfl ci_1 ?_
    refine z_cV1I 6 13 rfl rfl zl_X10_82 F_X10_refuse (zR_rm (by omega)) (c_X10_refuse X d a0 (1 : Int32) σ13) ⟨by decide, rfl, rfl⟩ h0 rfl (Nat.le_of_ble_eq_true rfl) (fun r14 σ15 => ?_)
    exact z_iret 7 rfl rfl
  · refine z_aload0 8 15 rfl rfl ?_
    refine z_getR 9 18 3 rfl rfl zf_X10_29 rfl h0 ?_
    refine z_iload1 10 19 rfl rfl ?_
    refine z_aload0 11 20 rfl rfl ?_
    refine z_getR 12 23 3 rfl rfl zf_X10_29 rfl h0 ?_
    refine z_ck (fun h16 => ?_)
    refine z_cV0I 13 26 rfl rfl zl_X10_181 F_X6_read (zR_rm (by omega)) (c_X6_read X d (σ13.2 a0 3) σ13) ⟨by decide, rfl, rfl⟩ h16 rfl (Nat.le_of_ble_eq_true rfl) (fun r17 σ18 => ?_)
    refine z_cV2I 14 29 rfl rfl zl_X10_223 F_X6_placesOf (zR_rm (by omega)) (c_X6_placesOf X d (σ13.2 a0 3) x1 r17 σ18) ⟨by decide, rfl, rfl⟩ h16 rfl (Nat.le_of_ble_eq_true rfl) (fun r19 σ20 => ?_)
    refine z_istore3 15 30 rfl rfl rfl (fun v21 => ?_)
    refine z_aload0 16 31 rfl rfl ?_
    refine z_cV0I 17 34 rfl rfl zl_X10_226 F_X10_openPlaces (zR_rm (by omega)) (c_X10_openPlaces X d (by omega) a0 σ20) ⟨by decide, rfl, rfl⟩ h0 rfl (Nat.le_of_ble_eq_true rfl) (fun r22 σ23 => ?_)
    refine z_istore4 18 36 rfl rfl rfl (fun v24 => ?_)
    refine z_iconst 19 37 rfl rfl ci_0 ?_
    refine z_istore5 20 39 rfl rfl rfl (fun v25 => ?_)
    refine z_iconst 21 40 rfl rfl ci_0 ?_
    refine z_istore6 22 42 rfl rfl rfl (fun v26 => ?_)
    exact z_wk (zle_e (zle_n (zle_n (zle_e (zle_e (zle_e (zle_e (zle_e zle_0)))))))) (t_X10_holds_42 X d hd a0 h0  FU v21 v24 v25 v26 σ23)
def f_X10_doneIf_121 (a0 : Nat) (s0 : Nat) (s1 : Nat) (s2 : Int32) (s3 : Int32) (σ : zS) : Option (Int32 × zS) := zck (WC.2 s1 = (5, 0)) (zbd (f_X5_outcome s1 s2 s3 σ) (fun r2 σ3 => zck (WC.2 s0 = (10, 0)) (zbd (f_X10_grant s0 r2 σ3) (fun r5 σ6 => some (r5, σ6)))))
theorem t_X10_doneIf_121 (X : zX) (d : Nat) (hd : 2 ≤ d + 1) (a0 : Nat) (h0 : WC.2 a0 = (10, 0)) (s0 : Nat) (s1 : Nat) (s2 : Int32) (s3 : Int32) (σ : zS) : zK X WC (zrm (d + 1)) M_X10_doneIf (zZ X WC zeI) 121 [some (.ref a0), none, none, none, none, none, none] [.int s3, .int s2, .ref s1, .ref s0] σ (f_X10_doneIf_121 a0 s0 s1 s2 s3 σ) := by
  unfold f_X10_doneIf_121
  refine z_ck (fun h1 => ?_)
  refine z_cV2I 69 124 rfl rfl zl_X10_235 F_X5_outcome (zR_rm (by omega)) (c_X5_outcome X d (by omega) s1 s2 s3 σ) ⟨by decide, rfl, rfl⟩ h1 rfl (Nat.le_of_ble_eq_true rfl) (fun r2 σ3 => ?_)
  refine z_ck (fun h4 => ?_)
  refine z_cV1I 70 127 rfl rfl zl_X10_121 F_X10_grant (zR_rm (by omega)) (c_X10_grant X d s0 r2 σ3) ⟨by decide, rfl, rfl⟩ h4 rfl (Nat.le_of_ble_eq_true rfl) (fun r5 σ6 => ?_)
  exact z_iret 71 rfl rfl
def f_X10_doneIf_16 (a0 : Nat)  (σ : zS) : Option (Int32 × zS) := zbd (f_X10_refuse a0 (1 : Int32) σ) (fun r7 σ8 => some (r7, σ8))
theorem t_X10_doneIf_16 (X : zX) (d : Nat) (hd : 2 ≤ d + 1) (a0 : Nat) (h0 : WC.2 a0 = (10, 0))  (σ : zS) : zK X WC (zrm (d + 1)) M_X10_doneIf (zZ X WC zeI) 16 [some (.ref a0), none, none, none, none, none, none] [] σ (f_X10_doneIf_16 a0 σ) := by
  unfold f_X10_doneIf_16
  refine z_aload0 8 17 rfl rfl ?_
  refine z_iconst 9 18 rfl rfl ci_1 ?_
  refine z_cV1I 10 21 rfl rfl zl_X10_82 F_X10_refuse (zR_rm (by omega)) (c_X10_refuse X d a0 (1 : Int32) σ) ⟨by decide, rfl, rfl⟩ h0 rfl (Nat.le_of_ble_eq_true rfl) (fun r7 σ8 => ?_)
  exact z_iret 11 rfl rfl
def f_X10_doneIf (a0 : Nat) (x1 : Int32) (x2 : Int32) (x3 : Int32) (σ : zS) : Option (Int32 × zS) := zck (WC.2 a0 = (10, 0)) (zbd (f_X10_isMatter a0 x1 σ) (fun r9 σ10 => zbr (r9 = 0) (f_X10_doneIf_16 a0 σ10) (zbd (f_X10_isPlace a0 x2 σ10) (fun r11 σ12 => zbr (r11 = 0) (f_X10_doneIf_16 a0 σ12) (zck (WC.2 (σ12.2 a0 3) = (6, 0)) (zbr ((((σ12.1 (σ12.2 a0 3) 7) >>> (x2 &&& 31)) &&& (1 : Int32)) = (1 : Int32)) (zbd (f_X10_refuse a0 (5 : Int32) σ12) (fun r14 σ15 => some (r14, σ15))) (zbd (f_X10_roomAt a0 x2 σ12) (fun r16 σ17 => zbr ((1 : Int32) ≤ r16) (zck (WC.2 (σ17.2 a0 3) = (6, 0)) (zbd (f_X6_read (σ17.2 a0 3) σ17) (fun r19 σ20 => zlt r19 (fun v21 => zlt ((1 : Int32) <<< (x2 &&& 31)) (fun v22 => zck (WC.2 (σ20.2 a0 3) = (6, 0)) (zbd (f_X6_dosOf (σ20.2 a0 3) x1 v21 σ20) (fun r24 σ25 => zlt r24 (fun v26 => zck (WC.2 (σ25.2 a0 3) = (6, 0)) (zbd (f_X6_placesOf (σ25.2 a0 3) x1 v21 σ25) (fun r28 σ29 => zbr (x3 = 0) (f_X10_doneIf_121 a0 a0 (σ25.2 a0 1) (r28 ||| v22) (v26 &&& (v22 ^^^ (-1 : Int32))) σ29) (f_X10_doneIf_121 a0 a0 (σ25.2 a0 1) (r28 ||| v22) (v26 ||| v22) σ29))))))))))) (zbd (f_X10_refuse a0 (3 : Int32) σ17) (fun r30 σ31 => some (r30, σ31)))))))))))
theorem c_X10_doneIf (X : zX) (d : Nat) (hd : 2 ≤ d) (a0 : Nat) (x1 : Int32) (x2 : Int32) (x3 : Int32) (σ : zS) : ∀ (r : Int32) (σ' : zS), f_X10_doneIf a0 x1 x2 x3 σ = some (r, σ') → zCN X WC d M_X10_doneIf [.ref a0, .int x1, .int x2, .int x3] σ (zeI r, σ') := by
  obtain ⟨d, rfl⟩ : ∃ e, d = e + 1 := ⟨d - 1, by omega⟩
  refine z_entry [.ref a0, .int x1, .int x2, .int x3] (by decide +kernel) T_X10_doneIf (Nat.le_of_ble_eq_true rfl) ?_
  show zK X WC (zrm (d + 1)) M_X10_doneIf (zZ X WC zeI) 0 [some (.ref a0), some (.int x1), some (.int x2), some (.int x3), none, none, none] [] σ (f_X10_doneIf a0 x1 x2 x3 σ)
  unfold f_X10_doneIf
  refine z_ck (fun h0 => ?_)
  refine z_aload0 0 1 rfl rfl ?_
  refine z_iload1 1 2 rfl rfl ?_
  refine z_cV1I 2 5 rfl rfl zl_X10_188 F_X10_isMatter (zR_rm (by omega)) (c_X10_isMatter X d a0 x1 σ) ⟨by decide, rfl, rfl⟩ h0 rfl (Nat.le_of_ble_eq_true rfl) (fun r9 σ10 => ?_)
  refine z_if_eq 3 8 16 rfl rfl (by decide) ?_ ?_
  · exact z_wk (zle_e (zle_n (zle_n (zle_n (zle_e (zle_e (zle_e zle_0))))))) (t_X10_doneIf_16 X d hd a0 h0  σ10)
  · refine z_aload0 4 9 rfl rfl ?_
    refine z_iload2 5 10 rfl rfl ?_
    refine z_cV1I 6 13 rfl rfl zl_X10_127 F_X10_isPlace (zR_rm (by omega)) (c_X10_isPlace X d a0 x2 σ10) ⟨by decide, rfl, rfl⟩ h0 rfl (Nat.le_of_ble_eq_true rfl) (fun r11 σ12 => ?_)
    refine z_if_ne 7 16 22 rfl rfl (by decide) ?_ ?_
    · exact z_wk (zle_e (zle_n (zle_n (zle_n (zle_e (zle_e (zle_e zle_0))))))) (t_X10_doneIf_16 X d hd a0 h0  σ12)
    · refine z_aload0 12 23 rfl rfl ?_
      refine z_getR 13 26 3 rfl rfl zf_X10_29 rfl h0 ?_
      refine z_ck (fun h13 => ?_)
      refine z_getI 14 29 7 rfl rfl zf_X10_147 rfl h13 ?_
      refine z_iload2 15 30 rfl rfl ?_
      refine z_ishr 16 31 rfl rfl ?_
      refine z_iconst 17 32 rfl rfl ci_1 ?_
      refine z_iand 18 33 rfl rfl ?_
      refine z_iconst 19 34 rfl rfl ci_1 ?_
      refine z_icmp_ne 20 37 43 rfl rfl (by decide) ?_ ?_
      · refine z_aload0 21 38 rfl rfl ?_
        refine z_iconst 22 39 rfl rfl ci_5 ?_
        refine z_cV1I 23 42 rfl rfl zl_X10_82 F_X10_refuse (zR_rm (by omega)) (c_X10_refuse X d a0 (5 : Int32) σ12) ⟨by decide, rfl, rfl⟩ h0 rfl (Nat.le_of_ble_eq_true rfl) (fun r14 σ15 => ?_)
        exact z_iret 24 rfl rfl
      · refine z_aload0 25 44 rfl rfl ?_
        refine z_iload2 26 45 rfl rfl ?_
        refine z_cV1I 27 48 rfl rfl zl_X10_138 F_X10_roomAt (zR_rm (by omega)) (c_X10_roomAt X d (by omega) a0 x2 σ12) ⟨by decide, rfl, rfl⟩ h0 rfl (Nat.le_of_ble_eq_true rfl) (fun r16 σ17 => ?_)
        refine z_iconst 28 49 rfl rfl ci_1 ?_
        refine z_icmp_ge 29 52 58 rfl rfl (by decide) ?_ ?_
        · refine z_aload0 34 59 rfl rfl ?_
          refine z_getR 35 62 3 rfl rfl zf_X10_29 rfl h0 ?_
          refine z_ck (fun h18 => ?_)
          refine z_cV0I 36 65 rfl rfl zl_X10_181 F_X6_read (zR_rm (by omega)) (c_X6_read X d (σ17.2 a0 3) σ17) ⟨by decide, rfl, rfl⟩ h18 rfl (Nat.le_of_ble_eq_true rfl) (fun r19 σ20 => ?_)
          refine z_istore4 37 67 rfl rfl rfl (fun v21 => ?_)
          refine z_iconst 38 68 rfl rfl ci_1 ?_
          refine z_iload2 39 69 rfl rfl ?_
          refine z_ishl 40 70 rfl rfl ?_
          refine z_istore5 41 72 rfl rfl rfl (fun v22 => ?_)
          refine z_aload0 42 73 rfl rfl ?_
          refine z_getR 43 76 3 rfl rfl zf_X10_29 rfl h0 ?_
          refine z_iload1 44 77 rfl rfl ?_
          refine z_iload4 45 79 rfl rfl ?_
          refine z_ck (fun h23 => ?_)
          refine z_cV2I 46 82 rfl rfl zl_X10_232 F_X6_dosOf (zR_rm (by omega)) (c_X6_dosOf X d (σ20.2 a0 3) x1 v21 σ20) ⟨by decide, rfl, rfl⟩ h23 rfl (Nat.le_of_ble_eq_true rfl) (fun r24 σ25 => ?_)
          refine z_istore6 47 84 rfl rfl rfl (fun v26 => ?_)
          refine z_aload0 48 85 rfl rfl ?_
          refine z_aload0 49 86 rfl rfl ?_
          refine z_getR 50 89 1 rfl rfl zf_X10_19 rfl h0 ?_
          refine z_aload0 51 90 rfl rfl ?_
          refine z_getR 52 93 3 rfl rfl zf_X10_29 rfl h0 ?_
          refine z_iload1 53 94 rfl rfl ?_
          refine z_iload4 54 96 rfl rfl ?_
          refine z_ck (fun h27 => ?_)
          refine z_cV2I 55 99 rfl rfl zl_X10_223 F_X6_placesOf (zR_rm (by omega)) (c_X6_placesOf X d (σ25.2 a0 3) x1 v21 σ25) ⟨by decide, rfl, rfl⟩ h27 rfl (Nat.le_of_ble_eq_true rfl) (fun r28 σ29 => ?_)
          refine z_iload5 56 101 rfl rfl ?_
          refine z_ior 57 102 rfl rfl ?_
          refine z_iload3 58 103 rfl rfl ?_
          refine z_if_eq 59 106 114 rfl rfl (by decide) ?_ ?_
          · refine z_iload6 64 116 rfl rfl ?_
            refine z_iload5 65 118 rfl rfl ?_
            refine z_iconst 66 119 rfl rfl ci_m1 ?_
            refine z_ixor 67 120 rfl rfl ?_
            refine z_iand 68 121 rfl rfl ?_
            exact z_wk (zle_e (zle_n (zle_n (zle_n (zle_n (zle_n (zle_n zle_0))))))) (t_X10_doneIf_121 X d hd a0 h0  a0 (σ25.2 a0 1) (r28 ||| v22) (v26 &&& (v22 ^^^ (-1 : Int32))) σ29)
          · refine z_iload6 60 108 rfl rfl ?_
            refine z_iload5 61 110 rfl rfl ?_
            refine z_ior 62 111 rfl rfl ?_
            refine z_goto 63 121 rfl (by decide) ?_
            exact z_wk (zle_e (zle_n (zle_n (zle_n (zle_n (zle_n (zle_n zle_0))))))) (t_X10_doneIf_121 X d hd a0 h0  a0 (σ25.2 a0 1) (r28 ||| v22) (v26 ||| v22) σ29)
        · refine z_aload0 30 53 rfl rfl ?_
          refine z_iconst 31 54 rfl rfl ci_3 ?_
          refine z_cV1I 32 57 rfl rfl zl_X10_82 F_X10_refuse (zR_rm (by omega)) (c_X10_refuse X d a0 (3 : Int32) σ17) ⟨by decide, rfl, rfl⟩ h0 rfl (Nat.le_of_ble_eq_true rfl) (fun r30 σ31 => ?_)
          exact z_iret 33 rfl rfl
def f_X10_setDuelRooms_39 (a0 : Nat) (H7 : Int32 → Int32 → zS → Option (Unit × zS)) (x1 : Int32) (x2 : Int32) (s0 : Nat) (s1 : Int32) (s2 : Int32) (σ : zS) : Option (Unit × zS) := zck (zok 100 (WC.2 s0) s1) (zlt (zpi σ s0 s1.toNatClampNeg s2) (fun σ1 => zlt (x2 + (1 : Int32)) (fun v2 => H7 x1 v2 σ1)))
theorem t_X10_setDuelRooms_39 (X : zX) (d : Nat) (hd : 3 ≤ d + 1) (a0 : Nat) (h0 : WC.2 a0 = (10, 0)) (H7 : Int32 → Int32 → zS → Option (Unit × zS)) (hH7 : ∀ (x1 : Int32) (x2 : Int32) (σ : zS), zK X WC (zrm (d + 1)) M_X10_setDuelRooms (zZ X WC zeV) 7 [some (.ref a0), some (.int x1), some (.int x2)] [] σ (H7 x1 x2 σ)) (x1 : Int32) (x2 : Int32) (s0 : Nat) (s1 : Int32) (s2 : Int32) (σ : zS) : zK X WC (zrm (d + 1)) M_X10_setDuelRooms (zZ X WC zeV) 39 [some (.ref a0), some (.int x1), some (.int x2)] [.int s2, .int s1, .ref s0] σ (f_X10_setDuelRooms_39 a0 H7 x1 x2 s0 s1 s2 σ) := by
  unfold f_X10_setDuelRooms_39
  refine z_iast 24 40 rfl rfl (fun σ1 => ?_)
  refine z_iinc2 25 43 rfl rfl ci_1 rfl (fun v2 => ?_)
  refine z_goto 26 7 rfl (by decide) ?_
  exact hH7 x1 v2 σ1
def f_X10_setDuelRooms_7 (a0 : Nat) : Nat → Int32 → Int32 → zS → Option (Unit × zS)
  | 0, _, _, _ => none
  | n + 1, x1, x2, σ => zbr ((6 : Int32) ≤ x2) (some ((), σ)) (zck (WC.2 (σ.2 a0 7) = (1, 0)) (zbr (((x1 >>> (x2 &&& 31)) &&& (1 : Int32)) = (1 : Int32)) (zbd (f_X10_roomAt a0 x2 σ) (fun r4 σ5 => f_X10_setDuelRooms_39 a0 (f_X10_setDuelRooms_7 a0 n) x1 x2 (σ.2 (σ.2 a0 7) 0) x2 r4 σ5)) (f_X10_setDuelRooms_39 a0 (f_X10_setDuelRooms_7 a0 n) x1 x2 (σ.2 (σ.2 a0 7) 0) x2 (0 : Int32) σ)))
theorem t_X10_setDuelRooms_7 (X : zX) (d : Nat) (hd : 3 ≤ d + 1) (a0 : Nat) (h0 : WC.2 a0 = (10, 0)) : ∀ (n : Nat) (x1 : Int32) (x2 : Int32) (σ : zS), zK X WC (zrm (d + 1)) M_X10_setDuelRooms (zZ X WC zeV) 7 [some (.ref a0), some (.int x1), some (.int x2)] [] σ (f_X10_setDuelRooms_7 a0 n x1 x2 σ) := by
  intro n
  induction n with
  | zero => intro x1 x2 σ; exact z_none
  | succ n ih =>
    intro x1 x2 σ
    rw [f_X10_setDuelRooms_7]
    refine z_iload2 5 8 rfl rfl ?_
    refine z_bipush 6 10 rfl rfl cb_6 ?_
    refine z_icmp_ge 7 13 46 rfl rfl (by decide) ?_ ?_
    · exact z_vret 27 rfl rfl
    · refine z_aload0 8 14 rfl rfl ?_
      refine z_getR 9 17 7 rfl rfl zf_X10_54 rfl h0 ?_
      refine z_ck (fun h3 => ?_)
      refine z_getR 10 20 0 rfl rfl zf_X10_369 rfl h3 ?_
      refine z_iload2 11 21 rfl rfl ?_
      refine z_iload1 12 22 rfl rfl ?_
      refine z_iload2 13 23 rfl rfl ?_
      refine z_ishr 14 24 rfl rfl ?_
      refine z_iconst 15 25 rfl rfl ci_1 ?_
      refine z_iand 16 26 rfl rfl ?_
      refine z_iconst 17 27 rfl rfl ci_1 ?_
      refine z_icmp_ne 18 30 38 rfl rfl (by decide) ?_ ?_
      · refine z_aload0 19 31 rfl rfl ?_
        refine z_iload2 20 32 rfl rfl ?_
        refine z_cV1I 21 35 rfl rfl zl_X10_138 F_X10_roomAt (zR_rm (by omega)) (c_X10_roomAt X d (by omega) a0 x2 σ) ⟨by decide, rfl, rfl⟩ h0 rfl (Nat.le_of_ble_eq_true rfl) (fun r4 σ5 => ?_)
        refine z_goto 22 39 rfl (by decide) ?_
        exact t_X10_setDuelRooms_39 X d hd a0 h0 (f_X10_setDuelRooms_7 a0 n) ih x1 x2 (σ.2 (σ.2 a0 7) 0) x2 r4 σ5
      · refine z_iconst 23 39 rfl rfl ci_0 ?_
        exact t_X10_setDuelRooms_39 X d hd a0 h0 (f_X10_setDuelRooms_7 a0 n) ih x1 x2 (σ.2 (σ.2 a0 7) 0) x2 (0 : Int32) σ
def f_X10_setDuelRooms (a0 : Nat) (σ : zS) : Option (Unit × zS) := zck (WC.2 a0 = (10, 0)) (zbd (f_X10_openPlaces a0 σ) (fun r6 σ7 => zlt r6 (fun v8 => zlt (0 : Int32) (fun v9 => f_X10_setDuelRooms_7 a0 FU v8 v9 σ7))))
theorem c_X10_setDuelRooms (X : zX) (d : Nat) (hd : 3 ≤ d) (a0 : Nat) (σ : zS) : ∀ (r : Unit) (σ' : zS), f_X10_setDuelRooms a0 σ = some (r, σ') → zCN X WC d M_X10_setDuelRooms [.ref a0] σ (zeV r, σ') := by
  obtain ⟨d, rfl⟩ : ∃ e, d = e + 1 := ⟨d - 1, by omega⟩
  refine z_entry [.ref a0] (by decide +kernel) T_X10_setDuelRooms (Nat.le_of_ble_eq_true rfl) ?_
  show zK X WC (zrm (d + 1)) M_X10_setDuelRooms (zZ X WC zeV) 0 [some (.ref a0), none, none] [] σ (f_X10_setDuelRooms a0 σ)
  unfold f_X10_setDuelRooms
  refine z_ck (fun h0 => ?_)
  refine z_aload0 0 1 rfl rfl ?_
  refine z_cV0I 1 4 rfl rfl zl_X10_226 F_X10_openPlaces (zR_rm (by omega)) (c_X10_openPlaces X d (by omega) a0 σ) ⟨by decide, rfl, rfl⟩ h0 rfl (Nat.le_of_ble_eq_true rfl) (fun r6 σ7 => ?_)
  refine z_istore1 2 5 rfl rfl rfl (fun v8 => ?_)
  refine z_iconst 3 6 rfl rfl ci_0 ?_
  refine z_istore2 4 7 rfl rfl rfl (fun v9 => ?_)
  exact t_X10_setDuelRooms_7 X d hd a0 h0  FU v8 v9 σ7
def f_X10_wins_85 (a0 : Nat) (s0 : Nat) (s1 : Int32) (σ : zS) : Option (Int32 × zS) := zck (WC.2 s0 = (10, 0)) (zbd (f_X10_grant s0 s1 σ) (fun r2 σ3 => some (r2, σ3)))
theorem t_X10_wins_85 (X : zX) (d : Nat) (hd : 21 ≤ d + 1) (a0 : Nat) (h0 : WC.2 a0 = (10, 0)) (s0 : Nat) (s1 : Int32) (σ : zS) : zK X WC (zrm (d + 1)) M_X10_wins (zZ X WC zeI) 85 [some (.ref a0), none, none, none, none] [.int s1, .ref s0] σ (f_X10_wins_85 a0 s0 s1 σ) := by
  unfold f_X10_wins_85
  refine z_ck (fun h1 => ?_)
  refine z_cV1I 47 88 rfl rfl zl_X10_121 F_X10_grant (zR_rm (by omega)) (c_X10_grant X d s0 s1 σ) ⟨by decide, rfl, rfl⟩ h1 rfl (Nat.le_of_ble_eq_true rfl) (fun r2 σ3 => ?_)
  exact z_iret 48 rfl rfl
def f_X10_wins_23 (a0 : Nat)  (σ : zS) : Option (Int32 × zS) := zbd (f_X10_refuse a0 (2 : Int32) σ) (fun r4 σ5 => some (r4, σ5))
theorem t_X10_wins_23 (X : zX) (d : Nat) (hd : 21 ≤ d + 1) (a0 : Nat) (h0 : WC.2 a0 = (10, 0))  (σ : zS) : zK X WC (zrm (d + 1)) M_X10_wins (zZ X WC zeI) 23 [some (.ref a0), none, none, none, none] [] σ (f_X10_wins_23 a0 σ) := by
  unfold f_X10_wins_23
  refine z_aload0 13 24 rfl rfl ?_
  refine z_iconst 14 25 rfl rfl ci_2 ?_
  refine z_cV1I 15 28 rfl rfl zl_X10_82 F_X10_refuse (zR_rm (by omega)) (c_X10_refuse X d a0 (2 : Int32) σ) ⟨by decide, rfl, rfl⟩ h0 rfl (Nat.le_of_ble_eq_true rfl) (fun r4 σ5 => ?_)
  exact z_iret 16 rfl rfl
def f_X10_wins (a0 : Nat) (x1 : Int32) (x2 : Int32) (σ : zS) : Option (Int32 × zS) := zck (WC.2 a0 = (10, 0)) (zbd (f_X10_isMatter a0 x1 σ) (fun r6 σ7 => zbr (r6 = 0) (zbd (f_X10_refuse a0 (1 : Int32) σ7) (fun r8 σ9 => some (r8, σ9))) (zbr (x2 < 0) (f_X10_wins_23 a0 σ7) (zbr (x2 ≤ (4 : Int32)) (zck (WC.2 (σ7.2 a0 3) = (6, 0)) (zbd (f_X6_read (σ7.2 a0 3) σ7) (fun r11 σ12 => zlt r11 (fun v13 => zbd (f_X10_setDuelRooms a0 σ12) (fun r14 σ15 => zck (WC.2 (σ15.2 a0 3) = (6, 0)) (zbd (f_X6_placesOf (σ15.2 a0 3) x1 v13 σ15) (fun r17 σ18 => zck (WC.2 (σ18.2 a0 3) = (6, 0)) (zbd (f_X6_dosOf (σ18.2 a0 3) x1 v13 σ18) (fun r20 σ21 => zck (WC.2 (σ15.2 a0 7) = (1, 0)) (zbd (f_X1_wonByOne FUR (σ15.2 a0 7) (σ15.2 a0 1) r17 r20 x2 (1 : Int32) σ21) (fun r23 σ24 => zlt r23 (fun v25 => zbr (v25 = 0) (f_X10_wins_85 a0 a0 (0 : Int32) σ24) (f_X10_wins_85 a0 a0 (1 : Int32) σ24))))))))))))) (f_X10_wins_23 a0 σ7)))))
theorem c_X10_wins (X : zX) (d : Nat) (hd : 21 ≤ d) (a0 : Nat) (x1 : Int32) (x2 : Int32) (σ : zS) : ∀ (r : Int32) (σ' : zS), f_X10_wins a0 x1 x2 σ = some (r, σ') → zCN X WC d M_X10_wins [.ref a0, .int x1, .int x2] σ (zeI r, σ') := by
  obtain ⟨d, rfl⟩ : ∃ e, d = e + 1 := ⟨d - 1, by omega⟩
  refine z_entry [.ref a0, .int x1, .int x2] (by decide +kernel) T_X10_wins (Nat.le_of_ble_eq_true rfl) ?_
  show zK X WC (zrm (d + 1)) M_X10_wins (zZ X WC zeI) 0 [some (.ref a0), some (.int x1), some (.int x2), none, none] [] σ (f_X10_wins a0 x1 x2 σ)
  unfold f_X10_wins
  refine z_ck (fun h0 => ?_)
  refine z_aload0 0 1 rfl rfl ?_
  refine z_iload1 1 2 rfl rfl ?_
  refine z_cV1I 2 5 rfl rfl zl_X10_188 F_X10_isMatter (zR_rm (by omega)) (c_X10_isMatter X d a0 x1 σ) ⟨by decide, rfl, rfl⟩ h0 rfl (Nat.le_of_ble_eq_true rfl) (fun r6 σ7 => ?_)
  refine z_if_ne 3 8 14 rfl rfl (by decide) ?_ ?_
  · refine z_aload0 4 9 rfl rfl ?_
    refine z_iconst 5 10 rfl rfl ci_1 ?_
    refine z_cV1I 6 13 rfl rfl zl_X10_82 F_X10_refuse (zR_rm (by omega)) (c_X10_refuse X d a0 (1 : Int32) σ7) ⟨by decide, rfl, rfl⟩ h0 rfl (Nat.le_of_ble_eq_true rfl) (fun r8 σ9 => ?_)
    exact z_iret 7 rfl rfl
  · refine z_iload2 8 15 rfl rfl ?_
    refine z_if_lt 9 18 23 rfl rfl (by decide) ?_ ?_
    · exact z_wk (zle_e (zle_n (zle_n (zle_e (zle_e zle_0))))) (t_X10_wins_23 X d hd a0 h0  σ7)
    · refine z_iload2 10 19 rfl rfl ?_
      refine z_iconst 11 20 rfl rfl ci_4 ?_
      refine z_icmp_le 12 23 29 rfl rfl (by decide) ?_ ?_
      · refine z_aload0 17 30 rfl rfl ?_
        refine z_getR 18 33 3 rfl rfl zf_X10_29 rfl h0 ?_
        refine z_ck (fun h10 => ?_)
        refine z_cV0I 19 36 rfl rfl zl_X10_181 F_X6_read (zR_rm (by omega)) (c_X6_read X d (σ7.2 a0 3) σ7) ⟨by decide, rfl, rfl⟩ h10 rfl (Nat.le_of_ble_eq_true rfl) (fun r11 σ12 => ?_)
        refine z_istore3 20 37 rfl rfl rfl (fun v13 => ?_)
        refine z_aload0 21 38 rfl rfl ?_
        refine z_cV0V 22 41 rfl rfl zl_X10_238 F_X10_setDuelRooms (zR_rm (by omega)) (c_X10_setDuelRooms X d (by omega) a0 σ12) ⟨by decide, rfl, rfl⟩ h0 rfl (Nat.le_of_ble_eq_true rfl) (fun r14 σ15 => ?_)
        refine z_aload0 23 42 rfl rfl ?_
        refine z_getR 24 45 7 rfl rfl zf_X10_54 rfl h0 ?_
        refine z_aload0 25 46 rfl rfl ?_
        refine z_getR 26 49 1 rfl rfl zf_X10_19 rfl h0 ?_
        refine z_aload0 27 50 rfl rfl ?_
        refine z_getR 28 53 3 rfl rfl zf_X10_29 rfl h0 ?_
        refine z_iload1 29 54 rfl rfl ?_
        refine z_iload3 30 55 rfl rfl ?_
        refine z_ck (fun h16 => ?_)
        refine z_cV2I 31 58 rfl rfl zl_X10_223 F_X6_placesOf (zR_rm (by omega)) (c_X6_placesOf X d (σ15.2 a0 3) x1 v13 σ15) ⟨by decide, rfl, rfl⟩ h16 rfl (Nat.le_of_ble_eq_true rfl) (fun r17 σ18 => ?_)
        refine z_aload0 32 59 rfl rfl ?_
        refine z_getR 33 62 3 rfl rfl zf_X10_29 rfl h0 ?_
        refine z_iload1 34 63 rfl rfl ?_
        refine z_iload3 35 64 rfl rfl ?_
        refine z_ck (fun h19 => ?_)
        refine z_cV2I 36 67 rfl rfl zl_X10_232 F_X6_dosOf (zR_rm (by omega)) (c_X6_dosOf X d (σ18.2 a0 3) x1 v13 σ18) ⟨by decide, rfl, rfl⟩ h19 rfl (Nat.le_of_ble_eq_true rfl) (fun r20 σ21 => ?_)
        refine z_iload2 37 68 rfl rfl ?_
        refine z_iconst 38 69 rfl rfl ci_1 ?_
        refine z_ck (fun h22 => ?_)
        refine z_cN5I 39 72 rfl rfl rfl F_X1_wonByOne (zR_rm (by omega)) (c_X1_wonByOne X FUR d (by unfold FUR; omega) (σ15.2 a0 7) (σ15.2 a0 1) r17 r20 x2 (1 : Int32) σ21) ⟨by decide, rfl, rfl⟩ h22 rfl (Nat.le_of_ble_eq_true rfl) (fun r23 σ24 => ?_)
        refine z_istore4 40 74 rfl rfl rfl (fun v25 => ?_)
        refine z_aload0 41 75 rfl rfl ?_
        refine z_iload4 42 77 rfl rfl ?_
        refine z_if_eq 43 80 84 rfl rfl (by decide) ?_ ?_
        · refine z_iconst 46 85 rfl rfl ci_0 ?_
          exact z_wk (zle_e (zle_n (zle_n (zle_n (zle_n zle_0))))) (t_X10_wins_85 X d hd a0 h0  a0 (0 : Int32) σ24)
        · refine z_iconst 44 81 rfl rfl ci_1 ?_
          refine z_goto 45 85 rfl (by decide) ?_
          exact z_wk (zle_e (zle_n (zle_n (zle_n (zle_n zle_0))))) (t_X10_wins_85 X d hd a0 h0  a0 (1 : Int32) σ24)
      · exact z_wk (zle_e (zle_n (zle_n (zle_e (zle_e zle_0))))) (t_X10_wins_23 X d hd a0 h0  σ7)
def f_X10_winsBy_24 (a0 : Nat)  (σ : zS) : Option (Int32 × zS) := zbd (f_X10_refuse a0 (2 : Int32) σ) (fun r1 σ2 => some (r1, σ2))
theorem t_X10_winsBy_24 (X : zX) (d : Nat) (hd : 23 ≤ d + 1) (a0 : Nat) (h0 : WC.2 a0 = (10, 0))  (σ : zS) : zK X WC (zrm (d + 1)) M_X10_winsBy (zZ X WC zeI) 24 [some (.ref a0), none, none, none] [] σ (f_X10_winsBy_24 a0 σ) := by
  unfold f_X10_winsBy_24
  refine z_aload0 14 25 rfl rfl ?_
  refine z_iconst 15 26 rfl rfl ci_2 ?_
  refine z_cV1I 16 29 rfl rfl zl_X10_82 F_X10_refuse (zR_rm (by omega)) (c_X10_refuse X d a0 (2 : Int32) σ) ⟨by decide, rfl, rfl⟩ h0 rfl (Nat.le_of_ble_eq_true rfl) (fun r1 σ2 => ?_)
  exact z_iret 17 rfl rfl
def f_X10_winsBy (a0 : Nat) (x1 : Int32) (x2 : Int32) (σ : zS) : Option (Int32 × zS) := zck (WC.2 a0 = (10, 0)) (zbd (f_X10_isMatter a0 x1 σ) (fun r3 σ4 => zbr (r3 = 0) (zbd (f_X10_refuse a0 (1 : Int32) σ4) (fun r5 σ6 => some (r5, σ6))) (zbr (x2 < (1 : Int32)) (f_X10_winsBy_24 a0 σ4) (zbr (x2 ≤ (4 : Int32)) (zck (WC.2 (σ4.2 a0 3) = (6, 0)) (zbd (f_X6_read (σ4.2 a0 3) σ4) (fun r8 σ9 => zlt r8 (fun v10 => zbd (f_X10_setDuelRooms a0 σ9) (fun r11 σ12 => zck (WC.2 (σ12.2 a0 3) = (6, 0)) (zbd (f_X6_placesOf (σ12.2 a0 3) x1 v10 σ12) (fun r14 σ15 => zck (WC.2 (σ15.2 a0 3) = (6, 0)) (zbd (f_X6_dosOf (σ15.2 a0 3) x1 v10 σ15) (fun r17 σ18 => zck (WC.2 (σ12.2 a0 7) = (1, 0)) (zbd (f_X1_firstMove (σ12.2 a0 7) (σ12.2 a0 1) r14 r17 x2 σ18) (fun r20 σ21 => zbd (f_X10_grant a0 r20 σ21) (fun r22 σ23 => some (r22, σ23))))))))))))) (f_X10_winsBy_24 a0 σ4)))))
theorem c_X10_winsBy (X : zX) (d : Nat) (hd : 23 ≤ d) (a0 : Nat) (x1 : Int32) (x2 : Int32) (σ : zS) : ∀ (r : Int32) (σ' : zS), f_X10_winsBy a0 x1 x2 σ = some (r, σ') → zCN X WC d M_X10_winsBy [.ref a0, .int x1, .int x2] σ (zeI r, σ') := by
  obtain ⟨d, rfl⟩ : ∃ e, d = e + 1 := ⟨d - 1, by omega⟩
  refine z_entry [.ref a0, .int x1, .int x2] (by decide +kernel) T_X10_winsBy (Nat.le_of_ble_eq_true rfl) ?_
  show zK X WC (zrm (d + 1)) M_X10_winsBy (zZ X WC zeI) 0 [some (.ref a0), some (.int x1), some (.int x2), none] [] σ (f_X10_winsBy a0 x1 x2 σ)
  unfold f_X10_winsBy
  refine z_ck (fun h0 => ?_)
  refine z_aload0 0 1 rfl rfl ?_
  refine z_iload1 1 2 rfl rfl ?_
  refine z_cV1I 2 5 rfl rfl zl_X10_188 F_X10_isMatter (zR_rm (by omega)) (c_X10_isMatter X d a0 x1 σ) ⟨by decide, rfl, rfl⟩ h0 rfl (Nat.le_of_ble_eq_true rfl) (fun r3 σ4 => ?_)
  refine z_if_ne 3 8 14 rfl rfl (by decide) ?_ ?_
  · refine z_aload0 4 9 rfl rfl ?_
    refine z_iconst 5 10 rfl rfl ci_1 ?_
    refine z_cV1I 6 13 rfl rfl zl_X10_82 F_X10_refuse (zR_rm (by omega)) (c_X10_refuse X d a0 (1 : Int32) σ4) ⟨by decide, rfl, rfl⟩ h0 rfl (Nat.le_of_ble_eq_true rfl) (fun r5 σ6 => ?_)
    exact z_iret 7 rfl rfl
  · refine z_iload2 8 15 rfl rfl ?_
    refine z_iconst 9 16 rfl rfl ci_1 ?_
    refine z_icmp_lt 10 19 24 rfl rfl (by decide) ?_ ?_
    · exact z_wk (zle_e (zle_n (zle_n (zle_e zle_0)))) (t_X10_winsBy_24 X d hd a0 h0  σ4)
    · refine z_iload2 11 20 rfl rfl ?_
      refine z_iconst 12 21 rfl rfl ci_4 ?_
      refine z_icmp_le 13 24 30 rfl rfl (by decide) ?_ ?_
      · refine z_aload0 18 31 rfl rfl ?_
        refine z_getR 19 34 3 rfl rfl zf_X10_29 rfl h0 ?_
        refine z_ck (fun h7 => ?_)
        refine z_cV0I 20 37 rfl rfl zl_X10_181 F_X6_read (zR_rm (by omega)) (c_X6_read X d (σ4.2 a0 3) σ4) ⟨by decide, rfl, rfl⟩ h7 rfl (Nat.le_of_ble_eq_true rfl) (fun r8 σ9 => ?_)
        refine z_istore3 21 38 rfl rfl rfl (fun v10 => ?_)
        refine z_aload0 22 39 rfl rfl ?_
        refine z_cV0V 23 42 rfl rfl zl_X10_238 F_X10_setDuelRooms (zR_rm (by omega)) (c_X10_setDuelRooms X d (by omega) a0 σ9) ⟨by decide, rfl, rfl⟩ h0 rfl (Nat.le_of_ble_eq_true rfl) (fun r11 σ12 => ?_)
        refine z_aload0 24 43 rfl rfl ?_
        refine z_aload0 25 44 rfl rfl ?_
        refine z_getR 26 47 7 rfl rfl zf_X10_54 rfl h0 ?_
        refine z_aload0 27 48 rfl rfl ?_
        refine z_getR 28 51 1 rfl rfl zf_X10_19 rfl h0 ?_
        refine z_aload0 29 52 rfl rfl ?_
        refine z_getR 30 55 3 rfl rfl zf_X10_29 rfl h0 ?_
        refine z_iload1 31 56 rfl rfl ?_
        refine z_iload3 32 57 rfl rfl ?_
        refine z_ck (fun h13 => ?_)
        refine z_cV2I 33 60 rfl rfl zl_X10_223 F_X6_placesOf (zR_rm (by omega)) (c_X6_placesOf X d (σ12.2 a0 3) x1 v10 σ12) ⟨by decide, rfl, rfl⟩ h13 rfl (Nat.le_of_ble_eq_true rfl) (fun r14 σ15 => ?_)
        refine z_aload0 34 61 rfl rfl ?_
        refine z_getR 35 64 3 rfl rfl zf_X10_29 rfl h0 ?_
        refine z_iload1 36 65 rfl rfl ?_
        refine z_iload3 37 66 rfl rfl ?_
        refine z_ck (fun h16 => ?_)
        refine z_cV2I 38 69 rfl rfl zl_X10_232 F_X6_dosOf (zR_rm (by omega)) (c_X6_dosOf X d (σ15.2 a0 3) x1 v10 σ15) ⟨by decide, rfl, rfl⟩ h16 rfl (Nat.le_of_ble_eq_true rfl) (fun r17 σ18 => ?_)
        refine z_iload2 39 70 rfl rfl ?_
        refine z_ck (fun h19 => ?_)
        refine z_cV4I 40 73 rfl rfl zl_X10_245 F_X1_firstMove (zR_rm (by omega)) (c_X1_firstMove X d (by omega) (σ12.2 a0 7) (σ12.2 a0 1) r14 r17 x2 σ18) ⟨by decide, rfl, rfl⟩ h19 rfl (Nat.le_of_ble_eq_true rfl) (fun r20 σ21 => ?_)
        refine z_cV1I 41 76 rfl rfl zl_X10_121 F_X10_grant (zR_rm (by omega)) (c_X10_grant X d a0 r20 σ21) ⟨by decide, rfl, rfl⟩ h0 rfl (Nat.le_of_ble_eq_true rfl) (fun r22 σ23 => ?_)
        exact z_iret 42 rfl rfl
      · exact z_wk (zle_e (zle_n (zle_n (zle_e zle_0)))) (t_X10_winsBy_24 X d hd a0 h0  σ4)
def f_X10_outranks_21 (a0 : Nat)  (σ : zS) : Option (Int32 × zS) := zbd (f_X10_refuse a0 (1 : Int32) σ) (fun r1 σ2 => some (r1, σ2))
theorem t_X10_outranks_21 (X : zX) (d : Nat) (hd : 1 ≤ d + 1) (a0 : Nat) (h0 : WC.2 a0 = (10, 0))  (σ : zS) : zK X WC (zrm (d + 1)) M_X10_outranks (zZ X WC zeI) 21 [some (.ref a0), none, none] [] σ (f_X10_outranks_21 a0 σ) := by
  unfold f_X10_outranks_21
  refine z_aload0 11 22 rfl rfl ?_
  refine z_iconst 12 23 rfl rfl ci_1 ?_
  refine z_cV1I 13 26 rfl rfl zl_X10_82 F_X10_refuse (zR_rm (by omega)) (c_X10_refuse X d a0 (1 : Int32) σ) ⟨by decide, rfl, rfl⟩ h0 rfl (Nat.le_of_ble_eq_true rfl) (fun r1 σ2 => ?_)
  exact z_iret 14 rfl rfl
def f_X10_outranks (a0 : Nat) (x1 : Int32) (x2 : Int32) (σ : zS) : Option (Int32 × zS) := zck (WC.2 a0 = (10, 0)) (zbd (f_X10_isPlace a0 x1 σ) (fun r3 σ4 => zbr (r3 = 0) (f_X10_outranks_21 a0 σ4) (zbd (f_X10_isPlace a0 x2 σ4) (fun r5 σ6 => zbr (r5 = 0) (f_X10_outranks_21 a0 σ6) (zbr (x1 = x2) (f_X10_outranks_21 a0 σ6) (zck (WC.2 (σ6.2 a0 1) = (5, 0)) (zck (zok 100 (WC.2 (σ6.2 (σ6.2 a0 1) 0)) x1) (zbd (f_X10_grant a0 (((σ6.1 (σ6.2 (σ6.2 a0 1) 0) x1.toNatClampNeg) >>> (x2 &&& 31)) &&& (1 : Int32)) σ6) (fun r8 σ9 => some (r8, σ9))))))))))
theorem c_X10_outranks (X : zX) (d : Nat) (hd : 1 ≤ d) (a0 : Nat) (x1 : Int32) (x2 : Int32) (σ : zS) : ∀ (r : Int32) (σ' : zS), f_X10_outranks a0 x1 x2 σ = some (r, σ') → zCN X WC d M_X10_outranks [.ref a0, .int x1, .int x2] σ (zeI r, σ') := by
  obtain ⟨d, rfl⟩ : ∃ e, d = e + 1 := ⟨d - 1, by omega⟩
  refine z_entry [.ref a0, .int x1, .int x2] (by decide +kernel) T_X10_outranks (Nat.le_of_ble_eq_true rfl) ?_
  show zK X WC (zrm (d + 1)) M_X10_outranks (zZ X WC zeI) 0 [some (.ref a0), some (.int x1), some (.int x2)] [] σ (f_X10_outranks a0 x1 x2 σ)
  unfold f_X10_outranks
  refine z_ck (fun h0 => ?_)
  refine z_aload0 0 1 rfl rfl ?_
  refine z_iload1 1 2 rfl rfl ?_
  refine z_cV1I 2 5 rfl rfl zl_X10_127 F_X10_isPlace (zR_rm (by omega)) (c_X10_isPlace X d a0 x1 σ) ⟨by decide, rfl, rfl⟩ h0 rfl (Nat.le_of_ble_eq_true rfl) (fun r3 σ4 => ?_)
  refine z_if_eq 3 8 21 rfl rfl (by decide) ?_ ?_
  · exact z_wk (zle_e (zle_n (zle_n zle_0))) (t_X10_outranks_21 X d hd a0 h0  σ4)
  · refine z_aload0 4 9 rfl rfl ?_
    refine z_iload2 5 10 rfl rfl ?_
    refine z_cV1I 6 13 rfl rfl zl_X10_127 F_X10_isPlace (zR_rm (by omega)) (c_X10_isPlace X d a0 x2 σ4) ⟨by decide, rfl, rfl⟩ h0 rfl (Nat.le_of_ble_eq_true rfl) (fun r5 σ6 => ?_)
    refine z_if_eq 7 16 21 rfl rfl (by decide) ?_ ?_
    · exact z_wk (zle_e (zle_n (zle_n zle_0))) (t_X10_outranks_21 X d hd a0 h0  σ6)
    · refine z_iload1 8 17 rfl rfl ?_
      refine z_iload2 9 18 rfl rfl ?_
      refine z_icmp_ne 10 21 27 rfl rfl (by decide) ?_ ?_
      · exact z_wk (zle_e (zle_n (zle_n zle_0))) (t_X10_outranks_21 X d hd a0 h0  σ6)
      · refine z_aload0 15 28 rfl rfl ?_
        refine z_aload0 16 29 rfl rfl ?_
        refine z_getR 17 32 1 rfl rfl zf_X10_19 rfl h0 ?_
        refine z_ck (fun h7 => ?_)
        refine z_getR 18 35 0 rfl rfl zf_X10_141 rfl h7 ?_
        refine z_iload1 19 36 rfl rfl ?_
        refine z_iald 20 37 rfl rfl ?_
        refine z_iload2 21 38 rfl rfl ?_
        refine z_ishr 22 39 rfl rfl ?_
        refine z_iconst 23 40 rfl rfl ci_1 ?_
        refine z_iand 24 41 rfl rfl ?_
        refine z_cV1I 25 44 rfl rfl zl_X10_121 F_X10_grant (zR_rm (by omega)) (c_X10_grant X d a0 (((σ6.1 (σ6.2 (σ6.2 a0 1) 0) x1.toNatClampNeg) >>> (x2 &&& 31)) &&& (1 : Int32)) σ6) ⟨by decide, rfl, rfl⟩ h0 rfl (Nat.le_of_ble_eq_true rfl) (fun r8 σ9 => ?_)
        exact z_iret 26 rfl rfl
def f_X10_ring_33 (a0 : Nat) (s0 : Nat) (s1 : Int32) (σ : zS) : Option (Int32 × zS) := zck (WC.2 s0 = (10, 0)) (zbd (f_X10_grant s0 s1 σ) (fun r2 σ3 => some (r2, σ3)))
theorem t_X10_ring_33 (X : zX) (d : Nat) (hd : 2 ≤ d + 1) (a0 : Nat) (h0 : WC.2 a0 = (10, 0)) (s0 : Nat) (s1 : Int32) (σ : zS) : zK X WC (zrm (d + 1)) M_X10_ring (zZ X WC zeI) 33 [some (.ref a0), none] [.int s1, .ref s0] σ (f_X10_ring_33 a0 s0 s1 σ) := by
  unfold f_X10_ring_33
  refine z_ck (fun h1 => ?_)
  refine z_cV1I 18 36 rfl rfl zl_X10_121 F_X10_grant (zR_rm (by omega)) (c_X10_grant X d s0 s1 σ) ⟨by decide, rfl, rfl⟩ h1 rfl (Nat.le_of_ble_eq_true rfl) (fun r2 σ3 => ?_)
  exact z_iret 19 rfl rfl
def f_X10_ring (a0 : Nat) (x1 : Int32) (σ : zS) : Option (Int32 × zS) := zck (WC.2 a0 = (10, 0)) (zbd (f_X10_isPlace a0 x1 σ) (fun r4 σ5 => zbr (r4 = 0) (zbd (f_X10_refuse a0 (1 : Int32) σ5) (fun r6 σ7 => some (r6, σ7))) (zck (WC.2 (σ5.2 a0 1) = (5, 0)) (zbd (f_X5_secondOfRing (σ5.2 a0 1) x1 σ5) (fun r9 σ10 => zbr (r9 = (-1 : Int32)) (f_X10_ring_33 a0 a0 (-2 : Int32) σ10) (f_X10_ring_33 a0 a0 (3 : Int32) σ10))))))
theorem c_X10_ring (X : zX) (d : Nat) (hd : 2 ≤ d) (a0 : Nat) (x1 : Int32) (σ : zS) : ∀ (r : Int32) (σ' : zS), f_X10_ring a0 x1 σ = some (r, σ') → zCN X WC d M_X10_ring [.ref a0, .int x1] σ (zeI r, σ') := by
  obtain ⟨d, rfl⟩ : ∃ e, d = e + 1 := ⟨d - 1, by omega⟩
  refine z_entry [.ref a0, .int x1] (by decide +kernel) T_X10_ring (Nat.le_of_ble_eq_true rfl) ?_
  show zK X WC (zrm (d + 1)) M_X10_ring (zZ X WC zeI) 0 [some (.ref a0), some (.int x1)] [] σ (f_X10_ring a0 x1 σ)
  unfold f_X10_ring
  refine z_ck (fun h0 => ?_)
  refine z_aload0 0 1 rfl rfl ?_
  refine z_iload1 1 2 rfl rfl ?_
  refine z_cV1I 2 5 rfl rfl zl_X10_127 F_X10_isPlace (zR_rm (by omega)) (c_X10_isPlace X d a0 x1 σ) ⟨by decide, rfl, rfl⟩ h0 rfl (Nat.le_of_ble_eq_true rfl) (fun r4 σ5 => ?_)
  refine z_if_ne 3 8 14 rfl rfl (by decide) ?_ ?_
  · refine z_aload0 4 9 rfl rfl ?_
    refine z_iconst 5 10 rfl rfl ci_1 ?_
    refine z_cV1I 6 13 rfl rfl zl_X10_82 F_X10_refuse (zR_rm (by omega)) (c_X10_refuse X d a0 (1 : Int32) σ5) ⟨by decide, rfl, rfl⟩ h0 rfl (Nat.le_of_ble_eq_true rfl) (fun r6 σ7 => ?_)
    exact z_iret 7 rfl rfl
  · refine z_aload0 8 15 rfl rfl ?_
    refine z_aload0 9 16 rfl rfl ?_
    refine z_getR 10 19 1 rfl rfl zf_X10_19 rfl h0 ?_
    refine z_iload1 11 20 rfl rfl ?_
    refine z_ck (fun h8 => ?_)
    refine z_cV1I 12 23 rfl rfl zl_X10_249 F_X5_secondOfRing (zR_rm (by omega)) (c_X5_secondOfRing X d (by omega) (σ5.2 a0 1) x1 σ5) ⟨by decide, rfl, rfl⟩ h8 rfl (Nat.le_of_ble_eq_true rfl) (fun r9 σ10 => ?_)
    refine z_iconst 13 24 rfl rfl ci_m1 ?_
    refine z_icmp_ne 14 27 32 rfl rfl (by decide) ?_ ?_
    · refine z_bipush 15 29 rfl rfl cb_m2 ?_
      refine z_goto 16 33 rfl (by decide) ?_
      exact z_wk (zle_e (zle_n zle_0)) (t_X10_ring_33 X d hd a0 h0  a0 (-2 : Int32) σ10)
    · refine z_iconst 17 33 rfl rfl ci_3 ?_
      exact z_wk (zle_e (zle_n zle_0)) (t_X10_ring_33 X d hd a0 h0  a0 (3 : Int32) σ10)
def f_X10_ringAt_72 (a0 : Nat) (s0 : Nat) (s1 : Int32) (σ : zS) : Option (Int32 × zS) := zck (WC.2 s0 = (10, 0)) (zbd (f_X10_grant s0 s1 σ) (fun r2 σ3 => some (r2, σ3)))
theorem t_X10_ringAt_72 (X : zX) (d : Nat) (hd : 2 ≤ d + 1) (a0 : Nat) (h0 : WC.2 a0 = (10, 0)) (s0 : Nat) (s1 : Int32) (σ : zS) : zK X WC (zrm (d + 1)) M_X10_ringAt (zZ X WC zeI) 72 [some (.ref a0), none, none, none] [.int s1, .ref s0] σ (f_X10_ringAt_72 a0 s0 s1 σ) := by
  unfold f_X10_ringAt_72
  refine z_ck (fun h1 => ?_)
  refine z_cV1I 42 75 rfl rfl zl_X10_121 F_X10_grant (zR_rm (by omega)) (c_X10_grant X d s0 s1 σ) ⟨by decide, rfl, rfl⟩ h1 rfl (Nat.le_of_ble_eq_true rfl) (fun r2 σ3 => ?_)
  exact z_iret 43 rfl rfl
def f_X10_ringAt_17 (a0 : Nat)  (σ : zS) : Option (Int32 × zS) := zbd (f_X10_refuse a0 (1 : Int32) σ) (fun r4 σ5 => some (r4, σ5))
theorem t_X10_ringAt_17 (X : zX) (d : Nat) (hd : 2 ≤ d + 1) (a0 : Nat) (h0 : WC.2 a0 = (10, 0))  (σ : zS) : zK X WC (zrm (d + 1)) M_X10_ringAt (zZ X WC zeI) 17 [some (.ref a0), none, none, none] [] σ (f_X10_ringAt_17 a0 σ) := by
  unfold f_X10_ringAt_17
  refine z_aload0 9 18 rfl rfl ?_
  refine z_iconst 10 19 rfl rfl ci_1 ?_
  refine z_cV1I 11 22 rfl rfl zl_X10_82 F_X10_refuse (zR_rm (by omega)) (c_X10_refuse X d a0 (1 : Int32) σ) ⟨by decide, rfl, rfl⟩ h0 rfl (Nat.le_of_ble_eq_true rfl) (fun r4 σ5 => ?_)
  exact z_iret 12 rfl rfl
def f_X10_ringAt (a0 : Nat) (x1 : Int32) (x2 : Int32) (σ : zS) : Option (Int32 × zS) := zck (WC.2 a0 = (10, 0)) (zbd (f_X10_isPlace a0 x1 σ) (fun r6 σ7 => zbr (r6 = 0) (f_X10_ringAt_17 a0 σ7) (zbr (x2 < 0) (f_X10_ringAt_17 a0 σ7) (zbr (x2 < (3 : Int32)) (zck (WC.2 (σ7.2 a0 1) = (5, 0)) (zbd (f_X5_secondOfRing (σ7.2 a0 1) x1 σ7) (fun r9 σ10 => zlt r9 (fun v11 => zbr (v11 = (-1 : Int32)) (zbd (f_X10_refuse a0 (1 : Int32) σ10) (fun r12 σ13 => some (r12, σ13))) (zbr (x2 = 0) (zbd (f_X10_grant a0 x1 σ10) (fun r14 σ15 => some (r14, σ15))) (zbr (x2 = (1 : Int32)) (f_X10_ringAt_72 a0 a0 v11 σ10) (zck (WC.2 (σ10.2 a0 1) = (5, 0)) (zbd (f_X5_thirdOfRing (σ10.2 a0 1) x1 v11 σ10) (fun r17 σ18 => f_X10_ringAt_72 a0 a0 r17 σ18))))))))) (f_X10_ringAt_17 a0 σ7)))))
theorem c_X10_ringAt (X : zX) (d : Nat) (hd : 2 ≤ d) (a0 : Nat) (x1 : Int32) (x2 : Int32) (σ : zS) : ∀ (r : Int32) (σ' : zS), f_X10_ringAt a0 x1 x2 σ = some (r, σ') → zCN X WC d M_X10_ringAt [.ref a0, .int x1, .int x2] σ (zeI r, σ') := by
  obtain ⟨d, rfl⟩ : ∃ e, d = e + 1 := ⟨d - 1, by omega⟩
  refine z_entry [.ref a0, .int x1, .int x2] (by decide +kernel) T_X10_ringAt (Nat.le_of_ble_eq_true rfl) ?_
  show zK X WC (zrm (d + 1)) M_X10_ringAt (zZ X WC zeI) 0 [some (.ref a0), some (.int x1), some (.int x2), none] [] σ (f_X10_ringAt a0 x1 x2 σ)
  unfold f_X10_ringAt
  refine z_ck (fun h0 => ?_)
  refine z_aload0 0 1 rfl rfl ?_
  refine z_iload1 1 2 rfl rfl ?_
  refine z_cV1I 2 5 rfl rfl zl_X10_127 F_X10_isPlace (zR_rm (by omega)) (c_X10_isPlace X d a0 x1 σ) ⟨by decide, rfl, rfl⟩ h0 rfl (Nat.le_of_ble_eq_true rfl) (fun r6 σ7 => ?_)
  refine z_if_eq 3 8 17 rfl rfl (by decide) ?_ ?_
  · exact z_wk (zle_e (zle_n (zle_n (zle_e zle_0)))) (t_X10_ringAt_17 X d hd a0 h0  σ7)
  · refine z_iload2 4 9 rfl rfl ?_
    refine z_if_lt 5 12 17 rfl rfl (by decide) ?_ ?_
    · exact z_wk (zle_e (zle_n (zle_n (zle_e zle_0)))) (t_X10_ringAt_17 X d hd a0 h0  σ7)
    · refine z_iload2 6 13 rfl rfl ?_
      refine z_iconst 7 14 rfl rfl ci_3 ?_
      refine z_icmp_lt 8 17 23 rfl rfl (by decide) ?_ ?_
      · refine z_aload0 13 24 rfl rfl ?_
        refine z_getR 14 27 1 rfl rfl zf_X10_19 rfl h0 ?_
        refine z_iload1 15 28 rfl rfl ?_
        refine z_ck (fun h8 => ?_)
        refine z_cV1I 16 31 rfl rfl zl_X10_249 F_X5_secondOfRing (zR_rm (by omega)) (c_X5_secondOfRing X d (by omega) (σ7.2 a0 1) x1 σ7) ⟨by decide, rfl, rfl⟩ h8 rfl (Nat.le_of_ble_eq_true rfl) (fun r9 σ10 => ?_)
        refine z_istore3 17 32 rfl rfl rfl (fun v11 => ?_)
        refine z_iload3 18 33 rfl rfl ?_
        refine z_iconst 19 34 rfl rfl ci_m1 ?_
        refine z_icmp_ne 20 37 43 rfl rfl (by decide) ?_ ?_
        · refine z_aload0 21 38 rfl rfl ?_
          refine z_iconst 22 39 rfl rfl ci_1 ?_
          refine z_cV1I 23 42 rfl rfl zl_X10_82 F_X10_refuse (zR_rm (by omega)) (c_X10_refuse X d a0 (1 : Int32) σ10) ⟨by decide, rfl, rfl⟩ h0 rfl (Nat.le_of_ble_eq_true rfl) (fun r12 σ13 => ?_)
          exact z_iret 24 rfl rfl
        · refine z_iload2 25 44 rfl rfl ?_
          refine z_if_ne 26 47 53 rfl rfl (by decide) ?_ ?_
          · refine z_aload0 27 48 rfl rfl ?_
            refine z_iload1 28 49 rfl rfl ?_
            refine z_cV1I 29 52 rfl rfl zl_X10_121 F_X10_grant (zR_rm (by omega)) (c_X10_grant X d a0 x1 σ10) ⟨by decide, rfl, rfl⟩ h0 rfl (Nat.le_of_ble_eq_true rfl) (fun r14 σ15 => ?_)
            exact z_iret 30 rfl rfl
          · refine z_aload0 31 54 rfl rfl ?_
            refine z_iload2 32 55 rfl rfl ?_
            refine z_iconst 33 56 rfl rfl ci_1 ?_
            refine z_icmp_ne 34 59 63 rfl rfl (by decide) ?_ ?_
            · refine z_iload3 35 60 rfl rfl ?_
              refine z_goto 36 72 rfl (by decide) ?_
              exact z_wk (zle_e (zle_n (zle_n (zle_n zle_0)))) (t_X10_ringAt_72 X d hd a0 h0  a0 v11 σ10)
            · refine z_aload0 37 64 rfl rfl ?_
              refine z_getR 38 67 1 rfl rfl zf_X10_19 rfl h0 ?_
              refine z_iload1 39 68 rfl rfl ?_
              refine z_iload3 40 69 rfl rfl ?_
              refine z_ck (fun h16 => ?_)
              refine z_cV2I 41 72 rfl rfl zl_X10_252 F_X5_thirdOfRing (zR_rm (by omega)) (c_X5_thirdOfRing X d (σ10.2 a0 1) x1 v11 σ10) ⟨by decide, rfl, rfl⟩ h16 rfl (Nat.le_of_ble_eq_true rfl) (fun r17 σ18 => ?_)
              exact z_wk (zle_e (zle_n (zle_n (zle_n zle_0)))) (t_X10_ringAt_72 X d hd a0 h0  a0 r17 σ18)
      · exact z_wk (zle_e (zle_n (zle_n (zle_e zle_0)))) (t_X10_ringAt_17 X d hd a0 h0  σ7)
def f_X10_free_70 (a0 : Nat) (H20 : Int32 → Int32 → Int32 → zS → Option (Int32 × zS)) (x1 : Int32) (x2 : Int32) (x3 : Int32) (σ : zS) : Option (Int32 × zS) := zlt (x3 + (1 : Int32)) (fun v1 => H20 x1 x2 v1 σ)
theorem t_X10_free_70 (X : zX) (d : Nat) (hd : 3 ≤ d + 1) (a0 : Nat) (h0 : WC.2 a0 = (10, 0)) (H20 : Int32 → Int32 → Int32 → zS → Option (Int32 × zS)) (hH20 : ∀ (x1 : Int32) (x2 : Int32) (x3 : Int32) (σ : zS), zK X WC (zrm (d + 1)) M_X10_free (zZ X WC zeI) 20 [some (.ref a0), some (.int x1), some (.int x2), some (.int x3)] [] σ (H20 x1 x2 x3 σ)) (x1 : Int32) (x2 : Int32) (x3 : Int32) (σ : zS) : zK X WC (zrm (d + 1)) M_X10_free (zZ X WC zeI) 70 [some (.ref a0), some (.int x1), some (.int x2), some (.int x3)] [] σ (f_X10_free_70 a0 H20 x1 x2 x3 σ) := by
  unfold f_X10_free_70
  refine z_iinc3 39 73 rfl rfl ci_1 rfl (fun v1 => ?_)
  refine z_goto 40 20 rfl (by decide) ?_
  exact hH20 x1 x2 v1 σ
def f_X10_free_20 (a0 : Nat) : Nat → Int32 → Int32 → Int32 → zS → Option (Int32 × zS)
  | 0, _, _, _, _ => none
  | n + 1, x1, x2, x3, σ => zck (WC.2 (σ.2 a0 8) = (3, 0)) (zbr (((1 : Int32) <<< ((σ.1 (σ.2 a0 8) 11) &&& 31)) ≤ x3) (zbd (f_X10_grant a0 x1 σ) (fun r3 σ4 => some (r3, σ4))) (zbd (f_J6_bitCount WC x3 σ) (fun r5 σ6 => zbr (x2 ≤ r5) (f_X10_free_70 a0 (f_X10_free_20 a0 n) x1 x2 x3 σ6) (zck (WC.2 (σ6.2 a0 2) = (5, 0)) (zbd (f_X5_arrange (σ6.2 a0 2) (σ6.2 a0 8) x3 σ6) (fun r8 σ9 => zck (WC.2 (σ9.2 a0 2) = (5, 0)) (zbd (f_X5_hasRing (σ9.2 a0 2) σ9) (fun r11 σ12 => zbr (r11 = 0) (zbd (f_J6_bitCount WC x3 σ12) (fun r13 σ14 => zlt r13 (fun v15 => zlt x3 (fun v16 => f_X10_free_70 a0 (f_X10_free_20 a0 n) v16 v15 x3 σ14)))) (f_X10_free_70 a0 (f_X10_free_20 a0 n) x1 x2 x3 σ12)))))))))
theorem t_X10_free_20 (X : zX) (d : Nat) (hd : 3 ≤ d + 1) (a0 : Nat) (h0 : WC.2 a0 = (10, 0)) : ∀ (n : Nat) (x1 : Int32) (x2 : Int32) (x3 : Int32) (σ : zS), zK X WC (zrm (d + 1)) M_X10_free (zZ X WC zeI) 20 [some (.ref a0), some (.int x1), some (.int x2), some (.int x3)] [] σ (f_X10_free_20 a0 n x1 x2 x3 σ) := by
  intro n
  induction n with
  | zero => intro x1 x2 x3 σ; exact z_none
  | succ n ih =>
    intro x1 x2 x3 σ
    rw [f_X10_free_20]
    refine z_iload3 13 21 rfl rfl ?_
    refine z_iconst 14 22 rfl rfl ci_1 ?_
    refine z_aload0 15 23 rfl rfl ?_
    refine z_getR 16 26 8 rfl rfl zf_X10_61 rfl h0 ?_
    refine z_ck (fun h2 => ?_)
    refine z_getI 17 29 11 rfl rfl zf_X10_255 rfl h2 ?_
    refine z_ishl 18 30 rfl rfl ?_
    refine z_icmp_ge 19 33 76 rfl rfl (by decide) ?_ ?_
    · refine z_aload0 41 77 rfl rfl ?_
      refine z_iload1 42 78 rfl rfl ?_
      refine z_cV1I 43 81 rfl rfl zl_X10_121 F_X10_grant (zR_rm (by omega)) (c_X10_grant X d a0 x1 σ) ⟨by decide, rfl, rfl⟩ h0 rfl (Nat.le_of_ble_eq_true rfl) (fun r3 σ4 => ?_)
      exact z_iret 44 rfl rfl
    · refine z_iload3 20 34 rfl rfl ?_
      refine z_cS1I 21 37 rfl rfl zl_X10_208 F_J6_bitCount (zR_rm (by omega)) (c_J6_bitCount X WC d x3 σ) rfl (Nat.le_of_ble_eq_true rfl) (fun r5 σ6 => ?_)
      refine z_iload2 22 38 rfl rfl ?_
      refine z_icmp_ge 23 41 70 rfl rfl (by decide) ?_ ?_
      · exact t_X10_free_70 X d hd a0 h0 (f_X10_free_20 a0 n) ih x1 x2 x3 σ6
      · refine z_aload0 24 42 rfl rfl ?_
        refine z_getR 25 45 2 rfl rfl zf_X10_23 rfl h0 ?_
        refine z_aload0 26 46 rfl rfl ?_
        refine z_getR 27 49 8 rfl rfl zf_X10_61 rfl h0 ?_
        refine z_iload3 28 50 rfl rfl ?_
        refine z_ck (fun h7 => ?_)
        refine z_cV2V 29 53 rfl rfl zl_X10_104 F_X5_arrange (zR_rm (by omega)) (c_X5_arrange X d (σ6.2 a0 2) (σ6.2 a0 8) x3 σ6) ⟨by decide, rfl, rfl⟩ h7 rfl (Nat.le_of_ble_eq_true rfl) (fun r8 σ9 => ?_)
        refine z_aload0 30 54 rfl rfl ?_
        refine z_getR 31 57 2 rfl rfl zf_X10_23 rfl h0 ?_
        refine z_ck (fun h10 => ?_)
        refine z_cV0I 32 60 rfl rfl zl_X10_258 F_X5_hasRing (zR_rm (by omega)) (c_X5_hasRing X d (by omega) (σ9.2 a0 2) σ9) ⟨by decide, rfl, rfl⟩ h10 rfl (Nat.le_of_ble_eq_true rfl) (fun r11 σ12 => ?_)
        refine z_if_ne 33 63 70 rfl rfl (by decide) ?_ ?_
        · refine z_iload3 34 64 rfl rfl ?_
          refine z_cS1I 35 67 rfl rfl zl_X10_208 F_J6_bitCount (zR_rm (by omega)) (c_J6_bitCount X WC d x3 σ12) rfl (Nat.le_of_ble_eq_true rfl) (fun r13 σ14 => ?_)
          refine z_istore2 36 68 rfl rfl rfl (fun v15 => ?_)
          refine z_iload3 37 69 rfl rfl ?_
          refine z_istore1 38 70 rfl rfl rfl (fun v16 => ?_)
          exact t_X10_free_70 X d hd a0 h0 (f_X10_free_20 a0 n) ih v16 v15 x3 σ14
        · exact t_X10_free_70 X d hd a0 h0 (f_X10_free_20 a0 n) ih x1 x2 x3 σ12
def f_X10_free (a0 : Nat) (σ : zS) : Option (Int32 × zS) := zck (WC.2 a0 = (10, 0)) (zbd (f_X10_noLetter a0 σ) (fun r17 σ18 => zbr (r17 = 0) (zlt (0 : Int32) (fun v19 => zlt (7 : Int32) (fun v20 => zlt (0 : Int32) (fun v21 => f_X10_free_20 a0 FU v19 v20 v21 σ18)))) (zbd (f_X10_refuse a0 (1 : Int32) σ18) (fun r22 σ23 => some (r22, σ23)))))
theorem c_X10_free (X : zX) (d : Nat) (hd : 3 ≤ d) (a0 : Nat) (σ : zS) : ∀ (r : Int32) (σ' : zS), f_X10_free a0 σ = some (r, σ') → zCN X WC d M_X10_free [.ref a0] σ (zeI r, σ') := by
  obtain ⟨d, rfl⟩ : ∃ e, d = e + 1 := ⟨d - 1, by omega⟩
  refine z_entry [.ref a0] (by decide +kernel) T_X10_free (Nat.le_of_ble_eq_true rfl) ?_
  show zK X WC (zrm (d + 1)) M_X10_free (zZ X WC zeI) 0 [some (.ref a0), none, none, none] [] σ (f_X10_free a0 σ)
  unfold f_X10_free
  refine z_ck (fun h0 => ?_)
  refine z_aload0 0 1 rfl rfl ?_
  refine z_cV0I 1 4 rfl rfl zl_X10_198 F_X10_noLetter (zR_rm (by omega)) (c_X10_noLetter X d a0 σ) ⟨by decide, rfl, rfl⟩ h0 rfl (Nat.le_of_ble_eq_true rfl) (fun r17 σ18 => ?_)
  refine z_if_eq 2 7 13 rfl rfl (by decide) ?_ ?_
  · refine z_iconst 7 14 rfl rfl ci_0 ?_
    refine z_istore1 8 15 rfl rfl rfl (fun v19 => ?_)
    refine z_bipush 9 17 rfl rfl cb_7 ?_
    refine z_istore2 10 18 rfl rfl rfl (fun v20 => ?_)
    refine z_iconst 11 19 rfl rfl ci_0 ?_
    refine z_istore3 12 20 rfl rfl rfl (fun v21 => ?_)
    exact t_X10_free_20 X d hd a0 h0  FU v19 v20 v21 σ18
  · refine z_aload0 3 8 rfl rfl ?_
    refine z_iconst 4 9 rfl rfl ci_1 ?_
    refine z_cV1I 5 12 rfl rfl zl_X10_82 F_X10_refuse (zR_rm (by omega)) (c_X10_refuse X d a0 (1 : Int32) σ18) ⟨by decide, rfl, rfl⟩ h0 rfl (Nat.le_of_ble_eq_true rfl) (fun r22 σ23 => ?_)
    exact z_iret 6 rfl rfl
def f_X10_top_57 (a0 : Nat) (H17 : Int32 → Int32 → zS → Option (Int32 × zS)) (x1 : Int32) (x2 : Int32) (σ : zS) : Option (Int32 × zS) := zlt (x2 + (1 : Int32)) (fun v1 => H17 x1 v1 σ)
theorem t_X10_top_57 (X : zX) (d : Nat) (hd : 1 ≤ d + 1) (a0 : Nat) (h0 : WC.2 a0 = (10, 0)) (H17 : Int32 → Int32 → zS → Option (Int32 × zS)) (hH17 : ∀ (x1 : Int32) (x2 : Int32) (σ : zS), zK X WC (zrm (d + 1)) M_X10_top (zZ X WC zeI) 17 [some (.ref a0), some (.int x1), some (.int x2)] [] σ (H17 x1 x2 σ)) (x1 : Int32) (x2 : Int32) (σ : zS) : zK X WC (zrm (d + 1)) M_X10_top (zZ X WC zeI) 57 [some (.ref a0), some (.int x1), some (.int x2)] [] σ (f_X10_top_57 a0 H17 x1 x2 σ) := by
  unfold f_X10_top_57
  refine z_iinc2 31 60 rfl rfl ci_1 rfl (fun v1 => ?_)
  refine z_goto 32 17 rfl (by decide) ?_
  exact hH17 x1 v1 σ
def f_X10_top_17 (a0 : Nat) : Nat → Int32 → Int32 → zS → Option (Int32 × zS)
  | 0, _, _, _ => none
  | n + 1, x1, x2, σ => zck (WC.2 (σ.2 a0 8) = (3, 0)) (zbr ((σ.1 (σ.2 a0 8) 10) ≤ x2) (zbd (f_X10_grant a0 x1 σ) (fun r3 σ4 => some (r3, σ4))) (zck (WC.2 (σ.2 a0 1) = (5, 0)) (zck (zok 100 (WC.2 (σ.2 (σ.2 a0 1) 0)) x2) (zbd (f_J6_bitCount WC (σ.1 (σ.2 (σ.2 a0 1) 0) x2.toNatClampNeg) σ) (fun r6 σ7 => zck (WC.2 (σ7.2 a0 1) = (5, 0)) (zck (zok 100 (WC.2 (σ7.2 (σ7.2 a0 1) 0)) x1) (zbd (f_J6_bitCount WC (σ7.1 (σ7.2 (σ7.2 a0 1) 0) x1.toNatClampNeg) σ7) (fun r9 σ10 => zbr (r6 ≤ r9) (f_X10_top_57 a0 (f_X10_top_17 a0 n) x1 x2 σ10) (zlt x2 (fun v11 => f_X10_top_57 a0 (f_X10_top_17 a0 n) v11 x2 σ10))))))))))
theorem t_X10_top_17 (X : zX) (d : Nat) (hd : 1 ≤ d + 1) (a0 : Nat) (h0 : WC.2 a0 = (10, 0)) : ∀ (n : Nat) (x1 : Int32) (x2 : Int32) (σ : zS), zK X WC (zrm (d + 1)) M_X10_top (zZ X WC zeI) 17 [some (.ref a0), some (.int x1), some (.int x2)] [] σ (f_X10_top_17 a0 n x1 x2 σ) := by
  intro n
  induction n with
  | zero => intro x1 x2 σ; exact z_none
  | succ n ih =>
    intro x1 x2 σ
    rw [f_X10_top_17]
    refine z_iload2 11 18 rfl rfl ?_
    refine z_aload0 12 19 rfl rfl ?_
    refine z_getR 13 22 8 rfl rfl zf_X10_61 rfl h0 ?_
    refine z_ck (fun h2 => ?_)
    refine z_getI 14 25 10 rfl rfl zf_X10_118 rfl h2 ?_
    refine z_icmp_ge 15 28 63 rfl rfl (by decide) ?_ ?_
    · refine z_aload0 33 64 rfl rfl ?_
      refine z_iload1 34 65 rfl rfl ?_
      refine z_cV1I 35 68 rfl rfl zl_X10_121 F_X10_grant (zR_rm (by omega)) (c_X10_grant X d a0 x1 σ) ⟨by decide, rfl, rfl⟩ h0 rfl (Nat.le_of_ble_eq_true rfl) (fun r3 σ4 => ?_)
      exact z_iret 36 rfl rfl
    · refine z_aload0 16 29 rfl rfl ?_
      refine z_getR 17 32 1 rfl rfl zf_X10_19 rfl h0 ?_
      refine z_ck (fun h5 => ?_)
      refine z_getR 18 35 0 rfl rfl zf_X10_141 rfl h5 ?_
      refine z_iload2 19 36 rfl rfl ?_
      refine z_iald 20 37 rfl rfl ?_
      refine z_cS1I 21 40 rfl rfl zl_X10_208 F_J6_bitCount (zR_rm (by omega)) (c_J6_bitCount X WC d (σ.1 (σ.2 (σ.2 a0 1) 0) x2.toNatClampNeg) σ) rfl (Nat.le_of_ble_eq_true rfl) (fun r6 σ7 => ?_)
      refine z_aload0 22 41 rfl rfl ?_
      refine z_getR 23 44 1 rfl rfl zf_X10_19 rfl h0 ?_
      refine z_ck (fun h8 => ?_)
      refine z_getR 24 47 0 rfl rfl zf_X10_141 rfl h8 ?_
      refine z_iload1 25 48 rfl rfl ?_
      refine z_iald 26 49 rfl rfl ?_
      refine z_cS1I 27 52 rfl rfl zl_X10_208 F_J6_bitCount (zR_rm (by omega)) (c_J6_bitCount X WC d (σ7.1 (σ7.2 (σ7.2 a0 1) 0) x1.toNatClampNeg) σ7) rfl (Nat.le_of_ble_eq_true rfl) (fun r9 σ10 => ?_)
      refine z_icmp_le 28 55 57 rfl rfl (by decide) ?_ ?_
      · exact t_X10_top_57 X d hd a0 h0 (f_X10_top_17 a0 n) ih x1 x2 σ10
      · refine z_iload2 29 56 rfl rfl ?_
        refine z_istore1 30 57 rfl rfl rfl (fun v11 => ?_)
        exact t_X10_top_57 X d hd a0 h0 (f_X10_top_17 a0 n) ih v11 x2 σ10
def f_X10_top (a0 : Nat) (σ : zS) : Option (Int32 × zS) := zck (WC.2 a0 = (10, 0)) (zbd (f_X10_noLetter a0 σ) (fun r12 σ13 => zbr (r12 = 0) (zlt (0 : Int32) (fun v14 => zlt (1 : Int32) (fun v15 => f_X10_top_17 a0 FU v14 v15 σ13))) (zbd (f_X10_refuse a0 (1 : Int32) σ13) (fun r16 σ17 => some (r16, σ17)))))
theorem c_X10_top (X : zX) (d : Nat) (hd : 1 ≤ d) (a0 : Nat) (σ : zS) : ∀ (r : Int32) (σ' : zS), f_X10_top a0 σ = some (r, σ') → zCN X WC d M_X10_top [.ref a0] σ (zeI r, σ') := by
  obtain ⟨d, rfl⟩ : ∃ e, d = e + 1 := ⟨d - 1, by omega⟩
  refine z_entry [.ref a0] (by decide +kernel) T_X10_top (Nat.le_of_ble_eq_true rfl) ?_
  show zK X WC (zrm (d + 1)) M_X10_top (zZ X WC zeI) 0 [some (.ref a0), none, none] [] σ (f_X10_top a0 σ)
  unfold f_X10_top
  refine z_ck (fun h0 => ?_)
  refine z_aload0 0 1 rfl rfl ?_
  refine z_cV0I 1 4 rfl rfl zl_X10_198 F_X10_noLetter (zR_rm (by omega)) (c_X10_noLetter X d a0 σ) ⟨by decide, rfl, rfl⟩ h0 rfl (Nat.le_of_ble_eq_true rfl) (fun r12 σ13 => ?_)
  refine z_if_eq 2 7 13 rfl rfl (by decide) ?_ ?_
  · refine z_iconst 7 14 rfl rfl ci_0 ?_
    refine z_istore1 8 15 rfl rfl rfl (fun v14 => ?_)
    refine z_iconst 9 16 rfl rfl ci_1 ?_
    refine z_istore2 10 17 rfl rfl rfl (fun v15 => ?_)
    exact t_X10_top_17 X d hd a0 h0  FU v14 v15 σ13
  · refine z_aload0 3 8 rfl rfl ?_
    refine z_iconst 4 9 rfl rfl ci_1 ?_
    refine z_cV1I 5 12 rfl rfl zl_X10_82 F_X10_refuse (zR_rm (by omega)) (c_X10_refuse X d a0 (1 : Int32) σ13) ⟨by decide, rfl, rfl⟩ h0 rfl (Nat.le_of_ble_eq_true rfl) (fun r16 σ17 => ?_)
    exact z_iret 6 rfl rfl
def f_X10_canTake_43 (a0 : Nat) : Nat → Int32 → Int32 → zS → Option (Int32 × zS)
  | 0, _, _, _ => none
  | n + 1, x1, x2, σ => zck (WC.2 (σ.2 a0 8) = (3, 0)) (zbr ((σ.1 (σ.2 a0 8) 12) ≤ x2) (zck (zb (1 : Int32)) (some ((1 : Int32), σ))) (zck (WC.2 (σ.2 (σ.2 a0 8) 8) = (0, 0)) (zbd (f_X0_paysBy (σ.2 (σ.2 a0 8) 8) x2 x1 σ) (fun r3 σ4 => zck (WC.2 (σ4.2 a0 8) = (3, 0)) (zck (zok 100 (WC.2 (σ4.2 (σ4.2 a0 8) 4)) x2) (zbr (r3 ≤ (σ4.1 (σ4.2 (σ4.2 a0 8) 4) x2.toNatClampNeg)) (zlt (x2 + (1 : Int32)) (fun v6 => f_X10_canTake_43 a0 n x1 v6 σ4)) (zck (zb (0 : Int32)) (some ((0 : Int32), σ4)))))))))
theorem t_X10_canTake_43 (X : zX) (d : Nat) (hd : 2 ≤ d + 1) (a0 : Nat) (h0 : WC.2 a0 = (10, 0)) : ∀ (n : Nat) (x1 : Int32) (x2 : Int32) (σ : zS), zK X WC (zrm (d + 1)) M_X10_canTake (zZ X WC zeI) 43 [some (.ref a0), some (.int x1), some (.int x2)] [] σ (f_X10_canTake_43 a0 n x1 x2 σ) := by
  intro n
  induction n with
  | zero => intro x1 x2 σ; exact z_none
  | succ n ih =>
    intro x1 x2 σ
    rw [f_X10_canTake_43]
    refine z_iload2 23 44 rfl rfl ?_
    refine z_aload0 24 45 rfl rfl ?_
    refine z_getR 25 48 8 rfl rfl zf_X10_61 rfl h0 ?_
    refine z_ck (fun h1 => ?_)
    refine z_getI 26 51 12 rfl rfl zf_X10_205 rfl h1 ?_
    refine z_icmp_ge 27 54 86 rfl rfl (by decide) ?_ ?_
    · refine z_iconst 44 87 rfl rfl ci_1 ?_
      exact z_zret 45 rfl rfl
    · refine z_aload0 28 55 rfl rfl ?_
      refine z_getR 29 58 8 rfl rfl zf_X10_61 rfl h0 ?_
      refine z_getR 30 61 8 rfl rfl zf_X10_264 rfl h1 ?_
      refine z_iload2 31 62 rfl rfl ?_
      refine z_iload1 32 63 rfl rfl ?_
      refine z_ck (fun h2 => ?_)
      refine z_cV2I 33 66 rfl rfl zl_X10_377 F_X0_paysBy (zR_rm (by omega)) (c_X0_paysBy X d (σ.2 (σ.2 a0 8) 8) x2 x1 σ) ⟨by decide, rfl, rfl⟩ h2 rfl (Nat.le_of_ble_eq_true rfl) (fun r3 σ4 => ?_)
      refine z_aload0 34 67 rfl rfl ?_
      refine z_getR 35 70 8 rfl rfl zf_X10_61 rfl h0 ?_
      refine z_ck (fun h5 => ?_)
      refine z_getR 36 73 4 rfl rfl zf_X10_153 rfl h5 ?_
      refine z_iload2 37 74 rfl rfl ?_
      refine z_iald 38 75 rfl rfl ?_
      refine z_icmp_le 39 78 80 rfl rfl (by decide) ?_ ?_
      · refine z_iinc2 42 83 rfl rfl ci_1 rfl (fun v6 => ?_)
        refine z_goto 43 43 rfl (by decide) ?_
        exact ih x1 v6 σ4
      · refine z_iconst 40 79 rfl rfl ci_0 ?_
        exact z_zret 41 rfl rfl
def f_X10_canTake_2 (a0 : Nat) : Nat → Int32 → Int32 → zS → Option (Int32 × zS)
  | 0, _, _, _ => none
  | n + 1, x1, x2, σ => zck (WC.2 (σ.2 a0 8) = (3, 0)) (zbr ((σ.1 (σ.2 a0 8) 10) ≤ x2) (zlt (0 : Int32) (fun v8 => f_X10_canTake_43 a0 FU x1 v8 σ)) (zck (WC.2 (σ.2 (σ.2 a0 8) 8) = (0, 0)) (zbd (f_X0_inchesAt (σ.2 (σ.2 a0 8) 8) x2 x1 σ) (fun r10 σ11 => zbd (f_X10_roomAt a0 x2 σ11) (fun r12 σ13 => zbr (r10 ≤ r12) (zlt (x2 + (1 : Int32)) (fun v14 => f_X10_canTake_2 a0 n x1 v14 σ13)) (zck (zb (0 : Int32)) (some ((0 : Int32), σ13))))))))
theorem t_X10_canTake_2 (X : zX) (d : Nat) (hd : 2 ≤ d + 1) (a0 : Nat) (h0 : WC.2 a0 = (10, 0)) : ∀ (n : Nat) (x1 : Int32) (x2 : Int32) (σ : zS), zK X WC (zrm (d + 1)) M_X10_canTake (zZ X WC zeI) 2 [some (.ref a0), some (.int x1), some (.int x2)] [] σ (f_X10_canTake_2 a0 n x1 x2 σ) := by
  intro n
  induction n with
  | zero => intro x1 x2 σ; exact z_none
  | succ n ih =>
    intro x1 x2 σ
    rw [f_X10_canTake_2]
    refine z_iload2 2 3 rfl rfl ?_
    refine z_aload0 3 4 rfl rfl ?_
    refine z_getR 4 7 8 rfl rfl zf_X10_61 rfl h0 ?_
    refine z_ck (fun h7 => ?_)
    refine z_getI 5 10 10 rfl rfl zf_X10_118 rfl h7 ?_
    refine z_icmp_ge 6 13 41 rfl rfl (by decide) ?_ ?_
    · refine z_iconst 21 42 rfl rfl ci_0 ?_
      refine z_istore2 22 43 rfl rfl rfl (fun v8 => ?_)
      exact t_X10_canTake_43 X d hd a0 h0  FU x1 v8 σ
    · refine z_aload0 7 14 rfl rfl ?_
      refine z_getR 8 17 8 rfl rfl zf_X10_61 rfl h0 ?_
      refine z_getR 9 20 8 rfl rfl zf_X10_264 rfl h7 ?_
      refine z_iload2 10 21 rfl rfl ?_
      refine z_iload1 11 22 rfl rfl ?_
      refine z_ck (fun h9 => ?_)
      refine z_cV2I 12 25 rfl rfl zl_X10_375 F_X0_inchesAt (zR_rm (by omega)) (c_X0_inchesAt X d (σ.2 (σ.2 a0 8) 8) x2 x1 σ) ⟨by decide, rfl, rfl⟩ h9 rfl (Nat.le_of_ble_eq_true rfl) (fun r10 σ11 => ?_)
      refine z_aload0 13 26 rfl rfl ?_
      refine z_iload2 14 27 rfl rfl ?_
      refine z_cV1I 15 30 rfl rfl zl_X10_138 F_X10_roomAt (zR_rm (by omega)) (c_X10_roomAt X d (by omega) a0 x2 σ11) ⟨by decide, rfl, rfl⟩ h0 rfl (Nat.le_of_ble_eq_true rfl) (fun r12 σ13 => ?_)
      refine z_icmp_le 16 33 35 rfl rfl (by decide) ?_ ?_
      · refine z_iinc2 19 38 rfl rfl ci_1 rfl (fun v14 => ?_)
        refine z_goto 20 2 rfl (by decide) ?_
        exact ih x1 v14 σ13
      · refine z_iconst 17 34 rfl rfl ci_0 ?_
        exact z_zret 18 rfl rfl
def f_X10_canTake (a0 : Nat) (x1 : Int32) (σ : zS) : Option (Int32 × zS) := zck (WC.2 a0 = (10, 0)) (zlt (0 : Int32) (fun v15 => f_X10_canTake_2 a0 FU x1 v15 σ))
theorem c_X10_canTake (X : zX) (d : Nat) (hd : 2 ≤ d) (a0 : Nat) (x1 : Int32) (σ : zS) : ∀ (r : Int32) (σ' : zS), f_X10_canTake a0 x1 σ = some (r, σ') → zCN X WC d M_X10_canTake [.ref a0, .int x1] σ (zeI r, σ') := by
  obtain ⟨d, rfl⟩ : ∃ e, d = e + 1 := ⟨d - 1, by omega⟩
  refine z_entry [.ref a0, .int x1] (by decide +kernel) T_X10_canTake (Nat.le_of_ble_eq_true rfl) ?_
  show zK X WC (zrm (d + 1)) M_X10_canTake (zZ X WC zeI) 0 [some (.ref a0), some (.int x1), none] [] σ (f_X10_canTake a0 x1 σ)
  unfold f_X10_canTake
  refine z_ck (fun h0 => ?_)
  refine z_iconst 0 1 rfl rfl ci_0 ?_
  refine z_istore2 1 2 rfl rfl rfl (fun v15 => ?_)
  exact t_X10_canTake_2 X d hd a0 h0  FU x1 v15 σ
def f_X10_bestBids_57 (a0 : Nat) (H13 : Int32 → Nat → Int32 → Int32 → zS → Option (Int32 × zS)) (x1 : Int32) (x2 : Nat) (x3 : Int32) (x4 : Int32) (σ : zS) : Option (Int32 × zS) := zlt (x4 + (1 : Int32)) (fun v1 => H13 x1 x2 x3 v1 σ)
theorem t_X10_bestBids_57 (X : zX) (d : Nat) (hd : 3 ≤ d + 1) (a0 : Nat) (h0 : WC.2 a0 = (10, 0)) (H13 : Int32 → Nat → Int32 → Int32 → zS → Option (Int32 × zS)) (hH13 : ∀ (x1 : Int32) (x2 : Nat) (x3 : Int32) (x4 : Int32) (σ : zS), zK X WC (zrm (d + 1)) M_X10_bestBids (zZ X WC zeI) 13 [some (.ref a0), some (.int x1), some (.ref x2), some (.int x3), some (.int x4)] [] σ (H13 x1 x2 x3 x4 σ)) (x1 : Int32) (x2 : Nat) (x3 : Int32) (x4 : Int32) (σ : zS) : zK X WC (zrm (d + 1)) M_X10_bestBids (zZ X WC zeI) 57 [some (.ref a0), some (.int x1), some (.ref x2), some (.int x3), some (.int x4)] [] σ (f_X10_bestBids_57 a0 H13 x1 x2 x3 x4 σ) := by
  unfold f_X10_bestBids_57
  refine z_iinc4 31 60 rfl rfl ci_1 rfl (fun v1 => ?_)
  refine z_goto 32 13 rfl (by decide) ?_
  exact hH13 x1 x2 x3 v1 σ
def f_X10_bestBids_13 (a0 : Nat) : Nat → Int32 → Nat → Int32 → Int32 → zS → Option (Int32 × zS)
  | 0, _, _, _, _, _ => none
  | n + 1, x1, x2, x3, x4, σ => zck (WC.2 x2 = (0, 0)) (zbr (((1 : Int32) <<< ((σ.1 x2 4) &&& 31)) ≤ x4) (some (x3, σ)) (zbr ((x4 &&& x1) = 0) (zbd (f_X0_paysOf x2 x4 σ) (fun r3 σ4 => zbd (f_X0_paysOf x2 x3 σ4) (fun r5 σ6 => zbr (r3 ≤ r5) (f_X10_bestBids_57 a0 (f_X10_bestBids_13 a0 n) x1 x2 x3 x4 σ6) (zbd (f_X10_canTake a0 x4 σ6) (fun r7 σ8 => zbr (r7 = 0) (f_X10_bestBids_57 a0 (f_X10_bestBids_13 a0 n) x1 x2 x3 x4 σ8) (zlt x4 (fun v9 => f_X10_bestBids_57 a0 (f_X10_bestBids_13 a0 n) x1 x2 v9 x4 σ8))))))) (f_X10_bestBids_57 a0 (f_X10_bestBids_13 a0 n) x1 x2 x3 x4 σ)))
theorem t_X10_bestBids_13 (X : zX) (d : Nat) (hd : 3 ≤ d + 1) (a0 : Nat) (h0 : WC.2 a0 = (10, 0)) : ∀ (n : Nat) (x1 : Int32) (x2 : Nat) (x3 : Int32) (x4 : Int32) (σ : zS), zK X WC (zrm (d + 1)) M_X10_bestBids (zZ X WC zeI) 13 [some (.ref a0), some (.int x1), some (.ref x2), some (.int x3), some (.int x4)] [] σ (f_X10_bestBids_13 a0 n x1 x2 x3 x4 σ) := by
  intro n
  induction n with
  | zero => intro x1 x2 x3 x4 σ; exact z_none
  | succ n ih =>
    intro x1 x2 x3 x4 σ
    rw [f_X10_bestBids_13]
    refine z_iload4 8 15 rfl rfl ?_
    refine z_iconst 9 16 rfl rfl ci_1 ?_
    refine z_aload2 10 17 rfl rfl ?_
    refine z_ck (fun h2 => ?_)
    refine z_getI 11 20 4 rfl rfl zf_X10_273 rfl h2 ?_
    refine z_ishl 12 21 rfl rfl ?_
    refine z_icmp_ge 13 24 63 rfl rfl (by decide) ?_ ?_
    · refine z_iload3 33 64 rfl rfl ?_
      exact z_iret 34 rfl rfl
    · refine z_iload4 14 26 rfl rfl ?_
      refine z_iload1 15 27 rfl rfl ?_
      refine z_iand 16 28 rfl rfl ?_
      refine z_if_ne 17 31 57 rfl rfl (by decide) ?_ ?_
      · refine z_aload2 18 32 rfl rfl ?_
        refine z_iload4 19 34 rfl rfl ?_
        refine z_cV1I 20 37 rfl rfl zl_X10_268 F_X0_paysOf (zR_rm (by omega)) (c_X0_paysOf X d x2 x4 σ) ⟨by decide, rfl, rfl⟩ h2 rfl (Nat.le_of_ble_eq_true rfl) (fun r3 σ4 => ?_)
        refine z_aload2 21 38 rfl rfl ?_
        refine z_iload3 22 39 rfl rfl ?_
        refine z_cV1I 23 42 rfl rfl zl_X10_268 F_X0_paysOf (zR_rm (by omega)) (c_X0_paysOf X d x2 x3 σ4) ⟨by decide, rfl, rfl⟩ h2 rfl (Nat.le_of_ble_eq_true rfl) (fun r5 σ6 => ?_)
        refine z_icmp_le 24 45 57 rfl rfl (by decide) ?_ ?_
        · exact t_X10_bestBids_57 X d hd a0 h0 (f_X10_bestBids_13 a0 n) ih x1 x2 x3 x4 σ6
        · refine z_aload0 25 46 rfl rfl ?_
          refine z_iload4 26 48 rfl rfl ?_
          refine z_cV1I 27 51 rfl rfl zl_X10_372 F_X10_canTake (zR_rm (by omega)) (c_X10_canTake X d (by omega) a0 x4 σ6) ⟨by decide, rfl, rfl⟩ h0 rfl (Nat.le_of_ble_eq_true rfl) (fun r7 σ8 => ?_)
          refine z_if_eq 28 54 57 rfl rfl (by decide) ?_ ?_
          · exact t_X10_bestBids_57 X d hd a0 h0 (f_X10_bestBids_13 a0 n) ih x1 x2 x3 x4 σ8
          · refine z_iload4 29 56 rfl rfl ?_
            refine z_istore3 30 57 rfl rfl rfl (fun v9 => ?_)
            exact t_X10_bestBids_57 X d hd a0 h0 (f_X10_bestBids_13 a0 n) ih x1 x2 v9 x4 σ8
      · exact t_X10_bestBids_57 X d hd a0 h0 (f_X10_bestBids_13 a0 n) ih x1 x2 x3 x4 σ
def f_X10_bestBids (a0 : Nat) (x1 : Int32) (σ : zS) : Option (Int32 × zS) := zck (WC.2 a0 = (10, 0)) (zck (WC.2 (σ.2 a0 8) = (3, 0)) (zlt (σ.2 (σ.2 a0 8) 8) (fun v11 => zlt (0 : Int32) (fun v12 => zlt (1 : Int32) (fun v13 => f_X10_bestBids_13 a0 FU x1 v11 v12 v13 σ)))))
theorem c_X10_bestBids (X : zX) (d : Nat) (hd : 3 ≤ d) (a0 : Nat) (x1 : Int32) (σ : zS) : ∀ (r : Int32) (σ' : zS), f_X10_bestBids a0 x1 σ = some (r, σ') → zCN X WC d M_X10_bestBids [.ref a0, .int x1] σ (zeI r, σ') := by
  obtain ⟨d, rfl⟩ : ∃ e, d = e + 1 := ⟨d - 1, by omega⟩
  refine z_entry [.ref a0, .int x1] (by decide +kernel) T_X10_bestBids (Nat.le_of_ble_eq_true rfl) ?_
  show zK X WC (zrm (d + 1)) M_X10_bestBids (zZ X WC zeI) 0 [some (.ref a0), some (.int x1), none, none, none] [] σ (f_X10_bestBids a0 x1 σ)
  unfold f_X10_bestBids
  refine z_ck (fun h0 => ?_)
  refine z_aload0 0 1 rfl rfl ?_
  refine z_getR 1 4 8 rfl rfl zf_X10_61 rfl h0 ?_
  refine z_ck (fun h10 => ?_)
  refine z_getR 2 7 8 rfl rfl zf_X10_264 rfl h10 ?_
  refine z_astore2 3 8 rfl rfl rfl (fun v11 => ?_)
  refine z_iconst 4 9 rfl rfl ci_0 ?_
  refine z_istore3 5 10 rfl rfl rfl (fun v12 => ?_)
  refine z_iconst 6 11 rfl rfl ci_1 ?_
  refine z_istore4 7 13 rfl rfl rfl (fun v13 => ?_)
  exact t_X10_bestBids_13 X d hd a0 h0  FU x1 v11 v12 v13 σ
def f_X10_taken (a0 : Nat) (σ : zS) : Option (Int32 × zS) := zck (WC.2 a0 = (10, 0)) (zbd (f_X10_noLetter a0 σ) (fun r1 σ2 => zbr (r1 = 0) (zbd (f_X10_bestBids a0 (0 : Int32) σ2) (fun r3 σ4 => zbd (f_X10_grant a0 r3 σ4) (fun r5 σ6 => some (r5, σ6)))) (zbd (f_X10_refuse a0 (1 : Int32) σ2) (fun r7 σ8 => some (r7, σ8)))))
theorem c_X10_taken (X : zX) (d : Nat) (hd : 4 ≤ d) (a0 : Nat) (σ : zS) : ∀ (r : Int32) (σ' : zS), f_X10_taken a0 σ = some (r, σ') → zCN X WC d M_X10_taken [.ref a0] σ (zeI r, σ') := by
  obtain ⟨d, rfl⟩ : ∃ e, d = e + 1 := ⟨d - 1, by omega⟩
  refine z_entry [.ref a0] (by decide +kernel) T_X10_taken (Nat.le_of_ble_eq_true rfl) ?_
  show zK X WC (zrm (d + 1)) M_X10_taken (zZ X WC zeI) 0 [some (.ref a0)] [] σ (f_X10_taken a0 σ)
  unfold f_X10_taken
  refine z_ck (fun h0 => ?_)
  refine z_aload0 0 1 rfl rfl ?_
  refine z_cV0I 1 4 rfl rfl zl_X10_198 F_X10_noLetter (zR_rm (by omega)) (c_X10_noLetter X d a0 σ) ⟨by decide, rfl, rfl⟩ h0 rfl (Nat.le_of_ble_eq_true rfl) (fun r1 σ2 => ?_)
  refine z_if_eq 2 7 15 rfl rfl (by decide) ?_ ?_
  · refine z_aload0 7 16 rfl rfl ?_
    refine z_aload0 8 17 rfl rfl ?_
    refine z_iconst 9 18 rfl rfl ci_0 ?_
    refine z_cV1I 10 21 rfl rfl zl_X10_261 F_X10_bestBids (zR_rm (by omega)) (c_X10_bestBids X d (by omega) a0 (0 : Int32) σ2) ⟨by decide, rfl, rfl⟩ h0 rfl (Nat.le_of_ble_eq_true rfl) (fun r3 σ4 => ?_)
    refine z_cV1I 11 24 rfl rfl zl_X10_121 F_X10_grant (zR_rm (by omega)) (c_X10_grant X d a0 r3 σ4) ⟨by decide, rfl, rfl⟩ h0 rfl (Nat.le_of_ble_eq_true rfl) (fun r5 σ6 => ?_)
    exact z_iret 12 rfl rfl
  · refine z_aload0 3 8 rfl rfl ?_
    refine z_iconst 4 9 rfl rfl ci_1 ?_
    refine z_cV1I 5 12 rfl rfl zl_X10_82 F_X10_refuse (zR_rm (by omega)) (c_X10_refuse X d a0 (1 : Int32) σ2) ⟨by decide, rfl, rfl⟩ h0 rfl (Nat.le_of_ble_eq_true rfl) (fun r7 σ8 => ?_)
    refine z_goto 6 24 rfl (by decide) ?_
    exact z_iret 12 rfl rfl
def f_X10_paid (a0 : Nat) (σ : zS) : Option (Int32 × zS) := zck (WC.2 a0 = (10, 0)) (zbd (f_X10_noLetter a0 σ) (fun r1 σ2 => zbr (r1 = 0) (zck (WC.2 (σ2.2 a0 8) = (3, 0)) (zbd (f_X10_bestBids a0 (0 : Int32) σ2) (fun r4 σ5 => zck (WC.2 (σ2.2 (σ2.2 a0 8) 8) = (0, 0)) (zbd (f_X0_paysOf (σ2.2 (σ2.2 a0 8) 8) r4 σ5) (fun r7 σ8 => zbd (f_X10_grant a0 r7 σ8) (fun r9 σ10 => some (r9, σ10))))))) (zbd (f_X10_refuse a0 (1 : Int32) σ2) (fun r11 σ12 => some (r11, σ12)))))
theorem c_X10_paid (X : zX) (d : Nat) (hd : 4 ≤ d) (a0 : Nat) (σ : zS) : ∀ (r : Int32) (σ' : zS), f_X10_paid a0 σ = some (r, σ') → zCN X WC d M_X10_paid [.ref a0] σ (zeI r, σ') := by
  obtain ⟨d, rfl⟩ : ∃ e, d = e + 1 := ⟨d - 1, by omega⟩
  refine z_entry [.ref a0] (by decide +kernel) T_X10_paid (Nat.le_of_ble_eq_true rfl) ?_
  show zK X WC (zrm (d + 1)) M_X10_paid (zZ X WC zeI) 0 [some (.ref a0)] [] σ (f_X10_paid a0 σ)
  unfold f_X10_paid
  refine z_ck (fun h0 => ?_)
  refine z_aload0 0 1 rfl rfl ?_
  refine z_cV0I 1 4 rfl rfl zl_X10_198 F_X10_noLetter (zR_rm (by omega)) (c_X10_noLetter X d a0 σ) ⟨by decide, rfl, rfl⟩ h0 rfl (Nat.le_of_ble_eq_true rfl) (fun r1 σ2 => ?_)
  refine z_if_eq 2 7 15 rfl rfl (by decide) ?_ ?_
  · refine z_aload0 7 16 rfl rfl ?_
    refine z_aload0 8 17 rfl rfl ?_
    refine z_getR 9 20 8 rfl rfl zf_X10_61 rfl h0 ?_
    refine z_ck (fun h3 => ?_)
    refine z_getR 10 23 8 rfl rfl zf_X10_264 rfl h3 ?_
    refine z_aload0 11 24 rfl rfl ?_
    refine z_iconst 12 25 rfl rfl ci_0 ?_
    refine z_cV1I 13 28 rfl rfl zl_X10_261 F_X10_bestBids (zR_rm (by omega)) (c_X10_bestBids X d (by omega) a0 (0 : Int32) σ2) ⟨by decide, rfl, rfl⟩ h0 rfl (Nat.le_of_ble_eq_true rfl) (fun r4 σ5 => ?_)
    refine z_ck (fun h6 => ?_)
    refine z_cV1I 14 31 rfl rfl zl_X10_268 F_X0_paysOf (zR_rm (by omega)) (c_X0_paysOf X d (σ2.2 (σ2.2 a0 8) 8) r4 σ5) ⟨by decide, rfl, rfl⟩ h6 rfl (Nat.le_of_ble_eq_true rfl) (fun r7 σ8 => ?_)
    refine z_cV1I 15 34 rfl rfl zl_X10_121 F_X10_grant (zR_rm (by omega)) (c_X10_grant X d a0 r7 σ8) ⟨by decide, rfl, rfl⟩ h0 rfl (Nat.le_of_ble_eq_true rfl) (fun r9 σ10 => ?_)
    exact z_iret 16 rfl rfl
  · refine z_aload0 3 8 rfl rfl ?_
    refine z_iconst 4 9 rfl rfl ci_1 ?_
    refine z_cV1I 5 12 rfl rfl zl_X10_82 F_X10_refuse (zR_rm (by omega)) (c_X10_refuse X d a0 (1 : Int32) σ2) ⟨by decide, rfl, rfl⟩ h0 rfl (Nat.le_of_ble_eq_true rfl) (fun r11 σ12 => ?_)
    refine z_goto 6 34 rfl (by decide) ?_
    exact z_iret 16 rfl rfl
def f_X10_worthOf_18 (a0 : Nat)  (σ : zS) : Option (Int32 × zS) := zbd (f_X10_refuse a0 (1 : Int32) σ) (fun r1 σ2 => some (r1, σ2))
theorem t_X10_worthOf_18 (X : zX) (d : Nat) (hd : 4 ≤ d + 1) (a0 : Nat) (h0 : WC.2 a0 = (10, 0))  (σ : zS) : zK X WC (zrm (d + 1)) M_X10_worthOf (zZ X WC zeI) 18 [some (.ref a0), none, none] [] σ (f_X10_worthOf_18 a0 σ) := by
  unfold f_X10_worthOf_18
  refine z_aload0 8 19 rfl rfl ?_
  refine z_iconst 9 20 rfl rfl ci_1 ?_
  refine z_cV1I 10 23 rfl rfl zl_X10_82 F_X10_refuse (zR_rm (by omega)) (c_X10_refuse X d a0 (1 : Int32) σ) ⟨by decide, rfl, rfl⟩ h0 rfl (Nat.le_of_ble_eq_true rfl) (fun r1 σ2 => ?_)
  exact z_iret 11 rfl rfl
def f_X10_worthOf (a0 : Nat) (x1 : Int32) (σ : zS) : Option (Int32 × zS) := zck (WC.2 a0 = (10, 0)) (zbr (x1 < 0) (f_X10_worthOf_18 a0 σ) (zck (WC.2 (σ.2 a0 8) = (3, 0)) (zck (WC.2 (σ.2 (σ.2 a0 8) 8) = (0, 0)) (zbr (x1 < (σ.1 (σ.2 (σ.2 a0 8) 8) 4)) (zlt (σ.2 (σ.2 a0 8) 8) (fun v5 => zbd (f_X10_bestBids a0 (0 : Int32) σ) (fun r6 σ7 => zck (WC.2 v5 = (0, 0)) (zbd (f_X0_paysOf v5 r6 σ7) (fun r9 σ10 => zbd (f_X10_bestBids a0 ((1 : Int32) <<< (x1 &&& 31)) σ10) (fun r11 σ12 => zbd (f_X0_paysOf v5 r11 σ12) (fun r13 σ14 => zbd (f_X10_grant a0 (r9 - r13) σ14) (fun r15 σ16 => some (r15, σ16))))))))) (f_X10_worthOf_18 a0 σ)))))
theorem c_X10_worthOf (X : zX) (d : Nat) (hd : 4 ≤ d) (a0 : Nat) (x1 : Int32) (σ : zS) : ∀ (r : Int32) (σ' : zS), f_X10_worthOf a0 x1 σ = some (r, σ') → zCN X WC d M_X10_worthOf [.ref a0, .int x1] σ (zeI r, σ') := by
  obtain ⟨d, rfl⟩ : ∃ e, d = e + 1 := ⟨d - 1, by omega⟩
  refine z_entry [.ref a0, .int x1] (by decide +kernel) T_X10_worthOf (Nat.le_of_ble_eq_true rfl) ?_
  show zK X WC (zrm (d + 1)) M_X10_worthOf (zZ X WC zeI) 0 [some (.ref a0), some (.int x1), none] [] σ (f_X10_worthOf a0 x1 σ)
  unfold f_X10_worthOf
  refine z_ck (fun h0 => ?_)
  refine z_iload1 0 1 rfl rfl ?_
  refine z_if_lt 1 4 18 rfl rfl (by decide) ?_ ?_
  · exact z_wk (zle_e (zle_n (zle_e zle_0))) (t_X10_worthOf_18 X d hd a0 h0  σ)
  · refine z_iload1 2 5 rfl rfl ?_
    refine z_aload0 3 6 rfl rfl ?_
    refine z_getR 4 9 8 rfl rfl zf_X10_61 rfl h0 ?_
    refine z_ck (fun h3 => ?_)
    refine z_getR 5 12 8 rfl rfl zf_X10_264 rfl h3 ?_
    refine z_ck (fun h4 => ?_)
    refine z_getI 6 15 4 rfl rfl zf_X10_273 rfl h4 ?_
    refine z_icmp_lt 7 18 24 rfl rfl (by decide) ?_ ?_
    · refine z_aload0 12 25 rfl rfl ?_
      refine z_getR 13 28 8 rfl rfl zf_X10_61 rfl h0 ?_
      refine z_getR 14 31 8 rfl rfl zf_X10_264 rfl h3 ?_
      refine z_astore2 15 32 rfl rfl rfl (fun v5 => ?_)
      refine z_aload0 16 33 rfl rfl ?_
      refine z_aload2 17 34 rfl rfl ?_
      refine z_aload0 18 35 rfl rfl ?_
      refine z_iconst 19 36 rfl rfl ci_0 ?_
      refine z_cV1I 20 39 rfl rfl zl_X10_261 F_X10_bestBids (zR_rm (by omega)) (c_X10_bestBids X d (by omega) a0 (0 : Int32) σ) ⟨by decide, rfl, rfl⟩ h0 rfl (Nat.le_of_ble_eq_true rfl) (fun r6 σ7 => ?_)
      refine z_ck (fun h8 => ?_)
      refine z_cV1I 21 42 rfl rfl zl_X10_268 F_X0_paysOf (zR_rm (by omega)) (c_X0_paysOf X d v5 r6 σ7) ⟨by decide, rfl, rfl⟩ h8 rfl (Nat.le_of_ble_eq_true rfl) (fun r9 σ10 => ?_)
      refine z_aload2 22 43 rfl rfl ?_
      refine z_aload0 23 44 rfl rfl ?_
      refine z_iconst 24 45 rfl rfl ci_1 ?_
      refine z_iload1 25 46 rfl rfl ?_
      refine z_ishl 26 47 rfl rfl ?_
      refine z_cV1I 27 50 rfl rfl zl_X10_261 F_X10_bestBids (zR_rm (by omega)) (c_X10_bestBids X d (by omega) a0 ((1 : Int32) <<< (x1 &&& 31)) σ10) ⟨by decide, rfl, rfl⟩ h0 rfl (Nat.le_of_ble_eq_true rfl) (fun r11 σ12 => ?_)
      refine z_cV1I 28 53 rfl rfl zl_X10_268 F_X0_paysOf (zR_rm (by omega)) (c_X0_paysOf X d v5 r11 σ12) ⟨by decide, rfl, rfl⟩ h8 rfl (Nat.le_of_ble_eq_true rfl) (fun r13 σ14 => ?_)
      refine z_isub 29 54 rfl rfl ?_
      refine z_cV1I 30 57 rfl rfl zl_X10_121 F_X10_grant (zR_rm (by omega)) (c_X10_grant X d a0 (r9 - r13) σ14) ⟨by decide, rfl, rfl⟩ h0 rfl (Nat.le_of_ble_eq_true rfl) (fun r15 σ16 => ?_)
      exact z_iret 31 rfl rfl
    · exact z_wk (zle_e (zle_n (zle_e zle_0))) (t_X10_worthOf_18 X d hd a0 h0  σ)
def f_X10_fits (a0 : Nat) (σ : zS) : Option (Int32 × zS) := zck (WC.2 a0 = (10, 0)) (zbd (f_X10_noLetter a0 σ) (fun r1 σ2 => zbr (r1 = 0) (zck (WC.2 (σ2.2 a0 6) = (2, 0)) (zbd (f_X2_find (σ2.2 a0 6) (σ2.2 a0 8) (σ2.2 a0 1) σ2) (fun r4 σ5 => zck (WC.2 (σ5.2 a0 6) = (2, 0)) (zbd (f_X10_grant a0 (σ5.1 (σ5.2 a0 6) 7) σ5) (fun r7 σ8 => some (r7, σ8)))))) (zbd (f_X10_refuse a0 (1 : Int32) σ2) (fun r9 σ10 => some (r9, σ10)))))
theorem c_X10_fits (X : zX) (d : Nat) (hd : 4 ≤ d) (a0 : Nat) (σ : zS) : ∀ (r : Int32) (σ' : zS), f_X10_fits a0 σ = some (r, σ') → zCN X WC d M_X10_fits [.ref a0] σ (zeI r, σ') := by
  obtain ⟨d, rfl⟩ : ∃ e, d = e + 1 := ⟨d - 1, by omega⟩
  refine z_entry [.ref a0] (by decide +kernel) T_X10_fits (Nat.le_of_ble_eq_true rfl) ?_
  show zK X WC (zrm (d + 1)) M_X10_fits (zZ X WC zeI) 0 [some (.ref a0)] [] σ (f_X10_fits a0 σ)
  unfold f_X10_fits
  refine z_ck (fun h0 => ?_)
  refine z_aload0 0 1 rfl rfl ?_
  refine z_cV0I 1 4 rfl rfl zl_X10_198 F_X10_noLetter (zR_rm (by omega)) (c_X10_noLetter X d a0 σ) ⟨by decide, rfl, rfl⟩ h0 rfl (Nat.le_of_ble_eq_true rfl) (fun r1 σ2 => ?_)
  refine z_if_eq 2 7 13 rfl rfl (by decide) ?_ ?_
  · refine z_aload0 7 14 rfl rfl ?_
    refine z_getR 8 17 6 rfl rfl zf_X10_47 rfl h0 ?_
    refine z_aload0 9 18 rfl rfl ?_
    refine z_getR 10 21 8 rfl rfl zf_X10_61 rfl h0 ?_
    refine z_aload0 11 22 rfl rfl ?_
    refine z_getR 12 25 1 rfl rfl zf_X10_19 rfl h0 ?_
    refine z_ck (fun h3 => ?_)
    refine z_cV2V 13 28 rfl rfl zl_X10_274 F_X2_find (zR_rm (by omega)) (c_X2_find X d (by omega) (σ2.2 a0 6) (σ2.2 a0 8) (σ2.2 a0 1) σ2) ⟨by decide, rfl, rfl⟩ h3 rfl (Nat.le_of_ble_eq_true rfl) (fun r4 σ5 => ?_)
    refine z_aload0 14 29 rfl rfl ?_
    refine z_aload0 15 30 rfl rfl ?_
    refine z_getR 16 33 6 rfl rfl zf_X10_47 rfl h0 ?_
    refine z_ck (fun h6 => ?_)
    refine z_getI 17 36 7 rfl rfl zf_X10_278 rfl h6 ?_
    refine z_cV1I 18 39 rfl rfl zl_X10_121 F_X10_grant (zR_rm (by omega)) (c_X10_grant X d a0 (σ5.1 (σ5.2 a0 6) 7) σ5) ⟨by decide, rfl, rfl⟩ h0 rfl (Nat.le_of_ble_eq_true rfl) (fun r7 σ8 => ?_)
    exact z_iret 19 rfl rfl
  · refine z_aload0 3 8 rfl rfl ?_
    refine z_iconst 4 9 rfl rfl ci_1 ?_
    refine z_cV1I 5 12 rfl rfl zl_X10_82 F_X10_refuse (zR_rm (by omega)) (c_X10_refuse X d a0 (1 : Int32) σ2) ⟨by decide, rfl, rfl⟩ h0 rfl (Nat.le_of_ble_eq_true rfl) (fun r9 σ10 => ?_)
    exact z_iret 6 rfl rfl
def f_X10_isHidden (a0 : Nat) (x1 : Int32) (σ : zS) : Option (Int32 × zS) := zck (WC.2 a0 = (10, 0)) (zbr (x1 < 0) (zck (zb (0 : Int32)) (some ((0 : Int32), σ))) (zck (WC.2 (σ.2 a0 8) = (3, 0)) (zbr ((σ.1 (σ.2 a0 8) 14) ≤ x1) (zck (zb (0 : Int32)) (some ((0 : Int32), σ))) (zck (zb (1 : Int32)) (some ((1 : Int32), σ))))))
theorem c_X10_isHidden (X : zX) (d : Nat) (a0 : Nat) (x1 : Int32) (σ : zS) : ∀ (r : Int32) (σ' : zS), f_X10_isHidden a0 x1 σ = some (r, σ') → zCN X WC d M_X10_isHidden [.ref a0, .int x1] σ (zeI r, σ') := by
  refine z_entry [.ref a0, .int x1] (by decide +kernel) T_X10_isHidden (Nat.le_of_ble_eq_true rfl) ?_
  show zK X WC (zrm d) M_X10_isHidden (zZ X WC zeI) 0 [some (.ref a0), some (.int x1)] [] σ (f_X10_isHidden a0 x1 σ)
  unfold f_X10_isHidden
  refine z_ck (fun h0 => ?_)
  refine z_iload1 0 1 rfl rfl ?_
  refine z_if_lt 1 4 19 rfl rfl (by decide) ?_ ?_
  · refine z_iconst 9 20 rfl rfl ci_0 ?_
    exact z_zret 10 rfl rfl
  · refine z_iload1 2 5 rfl rfl ?_
    refine z_aload0 3 6 rfl rfl ?_
    refine z_getR 4 9 8 rfl rfl zf_X10_61 rfl h0 ?_
    refine z_ck (fun h1 => ?_)
    refine z_getI 5 12 14 rfl rfl zf_X10_352 rfl h1 ?_
    refine z_icmp_ge 6 15 19 rfl rfl (by decide) ?_ ?_
    · refine z_iconst 9 20 rfl rfl ci_0 ?_
      exact z_zret 10 rfl rfl
    · refine z_iconst 7 16 rfl rfl ci_1 ?_
      refine z_goto 8 20 rfl (by decide) ?_
      exact z_zret 10 rfl rfl
def f_X10_fitAt_80 (a0 : Nat) (s0 : Nat) (s1 : Int32) (σ : zS) : Option (Int32 × zS) := zck (WC.2 s0 = (10, 0)) (zbd (f_X10_grant s0 s1 σ) (fun r2 σ3 => some (r2, σ3)))
theorem t_X10_fitAt_80 (X : zX) (d : Nat) (hd : 4 ≤ d + 1) (a0 : Nat) (h0 : WC.2 a0 = (10, 0)) (s0 : Nat) (s1 : Int32) (σ : zS) : zK X WC (zrm (d + 1)) M_X10_fitAt (zZ X WC zeI) 80 [some (.ref a0), none, none, none] [.int s1, .ref s0] σ (f_X10_fitAt_80 a0 s0 s1 σ) := by
  unfold f_X10_fitAt_80
  refine z_ck (fun h1 => ?_)
  refine z_cV1I 43 83 rfl rfl zl_X10_121 F_X10_grant (zR_rm (by omega)) (c_X10_grant X d s0 s1 σ) ⟨by decide, rfl, rfl⟩ h1 rfl (Nat.le_of_ble_eq_true rfl) (fun r2 σ3 => ?_)
  exact z_iret 44 rfl rfl
def f_X10_fitAt_44 (a0 : Nat)  (σ : zS) : Option (Int32 × zS) := zbd (f_X10_refuse a0 (1 : Int32) σ) (fun r4 σ5 => some (r4, σ5))
theorem t_X10_fitAt_44 (X : zX) (d : Nat) (hd : 4 ≤ d + 1) (a0 : Nat) (h0 : WC.2 a0 = (10, 0))  (σ : zS) : zK X WC (zrm (d + 1)) M_X10_fitAt (zZ X WC zeI) 44 [some (.ref a0), none, none, none] [] σ (f_X10_fitAt_44 a0 σ) := by
  unfold f_X10_fitAt_44
  refine z_aload0 22 45 rfl rfl ?_
  refine z_iconst 23 46 rfl rfl ci_1 ?_
  refine z_cV1I 24 49 rfl rfl zl_X10_82 F_X10_refuse (zR_rm (by omega)) (c_X10_refuse X d a0 (1 : Int32) σ) ⟨by decide, rfl, rfl⟩ h0 rfl (Nat.le_of_ble_eq_true rfl) (fun r4 σ5 => ?_)
  exact z_iret 25 rfl rfl
def f_X10_fitAt (a0 : Nat) (x1 : Int32) (x2 : Int32) (σ : zS) : Option (Int32 × zS) := zck (WC.2 a0 = (10, 0)) (zbd (f_X10_isHidden a0 x2 σ) (fun r6 σ7 => zbr (r6 = 0) (zbd (f_X10_refuse a0 (1 : Int32) σ7) (fun r8 σ9 => some (r8, σ9))) (zck (WC.2 (σ7.2 a0 6) = (2, 0)) (zbd (f_X2_find (σ7.2 a0 6) (σ7.2 a0 8) (σ7.2 a0 1) σ7) (fun r11 σ12 => zbr (x1 < 0) (f_X10_fitAt_44 a0 σ12) (zck (WC.2 (σ12.2 a0 6) = (2, 0)) (zbr (x1 < (σ12.1 (σ12.2 a0 6) 7)) (zbd (f_X2_saying (σ12.2 a0 6) x1 x2 σ12) (fun r14 σ15 => zlt r14 (fun v16 => zck (WC.2 (σ15.2 a0 8) = (3, 0)) (zbr (v16 = ((2 : Int32) * (σ15.1 (σ15.2 a0 8) 13))) (f_X10_fitAt_80 a0 a0 (-2 : Int32) σ15) (f_X10_fitAt_80 a0 a0 v16 σ15))))) (f_X10_fitAt_44 a0 σ12))))))))
theorem c_X10_fitAt (X : zX) (d : Nat) (hd : 4 ≤ d) (a0 : Nat) (x1 : Int32) (x2 : Int32) (σ : zS) : ∀ (r : Int32) (σ' : zS), f_X10_fitAt a0 x1 x2 σ = some (r, σ') → zCN X WC d M_X10_fitAt [.ref a0, .int x1, .int x2] σ (zeI r, σ') := by
  obtain ⟨d, rfl⟩ : ∃ e, d = e + 1 := ⟨d - 1, by omega⟩
  refine z_entry [.ref a0, .int x1, .int x2] (by decide +kernel) T_X10_fitAt (Nat.le_of_ble_eq_true rfl) ?_
  show zK X WC (zrm (d + 1)) M_X10_fitAt (zZ X WC zeI) 0 [some (.ref a0), some (.int x1), some (.int x2), none] [] σ (f_X10_fitAt a0 x1 x2 σ)
  unfold f_X10_fitAt
  refine z_ck (fun h0 => ?_)
  refine z_aload0 0 1 rfl rfl ?_
  refine z_iload2 1 2 rfl rfl ?_
  refine z_cV1I 2 5 rfl rfl zl_X10_279 F_X10_isHidden (zR_rm (by omega)) (c_X10_isHidden X d a0 x2 σ) ⟨by decide, rfl, rfl⟩ h0 rfl (Nat.le_of_ble_eq_true rfl) (fun r6 σ7 => ?_)
  refine z_if_ne 3 8 14 rfl rfl (by decide) ?_ ?_
  · refine z_aload0 4 9 rfl rfl ?_
    refine z_iconst 5 10 rfl rfl ci_1 ?_
    refine z_cV1I 6 13 rfl rfl zl_X10_82 F_X10_refuse (zR_rm (by omega)) (c_X10_refuse X d a0 (1 : Int32) σ7) ⟨by decide, rfl, rfl⟩ h0 rfl (Nat.le_of_ble_eq_true rfl) (fun r8 σ9 => ?_)
    exact z_iret 7 rfl rfl
  · refine z_aload0 8 15 rfl rfl ?_
    refine z_getR 9 18 6 rfl rfl zf_X10_47 rfl h0 ?_
    refine z_aload0 10 19 rfl rfl ?_
    refine z_getR 11 22 8 rfl rfl zf_X10_61 rfl h0 ?_
    refine z_aload0 12 23 rfl rfl ?_
    refine z_getR 13 26 1 rfl rfl zf_X10_19 rfl h0 ?_
    refine z_ck (fun h10 => ?_)
    refine z_cV2V 14 29 rfl rfl zl_X10_274 F_X2_find (zR_rm (by omega)) (c_X2_find X d (by omega) (σ7.2 a0 6) (σ7.2 a0 8) (σ7.2 a0 1) σ7) ⟨by decide, rfl, rfl⟩ h10 rfl (Nat.le_of_ble_eq_true rfl) (fun r11 σ12 => ?_)
    refine z_iload1 15 30 rfl rfl ?_
    refine z_if_lt 16 33 44 rfl rfl (by decide) ?_ ?_
    · exact z_wk (zle_e (zle_n (zle_n (zle_e zle_0)))) (t_X10_fitAt_44 X d hd a0 h0  σ12)
    · refine z_iload1 17 34 rfl rfl ?_
      refine z_aload0 18 35 rfl rfl ?_
      refine z_getR 19 38 6 rfl rfl zf_X10_47 rfl h0 ?_
      refine z_ck (fun h13 => ?_)
      refine z_getI 20 41 7 rfl rfl zf_X10_278 rfl h13 ?_
      refine z_icmp_lt 21 44 50 rfl rfl (by decide) ?_ ?_
      · refine z_aload0 26 51 rfl rfl ?_
        refine z_getR 27 54 6 rfl rfl zf_X10_47 rfl h0 ?_
        refine z_iload1 28 55 rfl rfl ?_
        refine z_iload2 29 56 rfl rfl ?_
        refine z_cV2I 30 59 rfl rfl zl_X10_282 F_X2_saying (zR_rm (by omega)) (c_X2_saying X d (by omega) (σ12.2 a0 6) x1 x2 σ12) ⟨by decide, rfl, rfl⟩ h13 rfl (Nat.le_of_ble_eq_true rfl) (fun r14 σ15 => ?_)
        refine z_istore3 31 60 rfl rfl rfl (fun v16 => ?_)
        refine z_aload0 32 61 rfl rfl ?_
        refine z_iload3 33 62 rfl rfl ?_
        refine z_iconst 34 63 rfl rfl ci_2 ?_
        refine z_aload0 35 64 rfl rfl ?_
        refine z_getR 36 67 8 rfl rfl zf_X10_61 rfl h0 ?_
        refine z_ck (fun h17 => ?_)
        refine z_getI 37 70 13 rfl rfl zf_X10_202 rfl h17 ?_
        refine z_imul 38 71 rfl rfl ?_
        refine z_icmp_ne 39 74 79 rfl rfl (by decide) ?_ ?_
        · refine z_bipush 40 76 rfl rfl cb_m2 ?_
          refine z_goto 41 80 rfl (by decide) ?_
          exact z_wk (zle_e (zle_n (zle_n (zle_n zle_0)))) (t_X10_fitAt_80 X d hd a0 h0  a0 (-2 : Int32) σ15)
        · refine z_iload3 42 80 rfl rfl ?_
          exact z_wk (zle_e (zle_n (zle_n (zle_n zle_0)))) (t_X10_fitAt_80 X d hd a0 h0  a0 v16 σ15)
      · exact z_wk (zle_e (zle_n (zle_n (zle_e zle_0)))) (t_X10_fitAt_44 X d hd a0 h0  σ12)
def f_X10_says_16 (a0 : Nat)  (σ : zS) : Option (Int32 × zS) := zbd (f_X10_refuse a0 (1 : Int32) σ) (fun r1 σ2 => some (r1, σ2))
theorem t_X10_says_16 (X : zX) (d : Nat) (hd : 4 ≤ d + 1) (a0 : Nat) (h0 : WC.2 a0 = (10, 0))  (σ : zS) : zK X WC (zrm (d + 1)) M_X10_says (zZ X WC zeI) 16 [some (.ref a0), none, none, none] [] σ (f_X10_says_16 a0 σ) := by
  unfold f_X10_says_16
  refine z_aload0 8 17 rfl rfl ?_
  refine z_iconst 9 18 rfl rfl ci_1 ?_
  refine z_cV1I 10 21 rfl rfl zl_X10_82 F_X10_refuse (zR_rm (by omega)) (c_X10_refuse X d a0 (1 : Int32) σ) ⟨by decide, rfl, rfl⟩ h0 rfl (Nat.le_of_ble_eq_true rfl) (fun r1 σ2 => ?_)
  exact z_iret 11 rfl rfl
def f_X10_says (a0 : Nat) (x1 : Int32) (x2 : Int32) (σ : zS) : Option (Int32 × zS) := zck (WC.2 a0 = (10, 0)) (zbd (f_X10_isHidden a0 x1 σ) (fun r3 σ4 => zbr (r3 = 0) (f_X10_says_16 a0 σ4) (zbd (f_X10_isMatter a0 x2 σ4) (fun r5 σ6 => zbr (r5 = 0) (f_X10_says_16 a0 σ6) (zck (WC.2 (σ6.2 a0 6) = (2, 0)) (zbd (f_X2_find (σ6.2 a0 6) (σ6.2 a0 8) (σ6.2 a0 1) σ6) (fun r8 σ9 => zlt ((x1 * (9 : Int32)) + ((2 : Int32) * x2)) (fun v10 => zck (WC.2 (σ9.2 a0 6) = (2, 0)) (zck (zok 100 (WC.2 (σ9.2 (σ9.2 a0 6) 1)) v10) (zck (zok 100 (WC.2 (σ9.2 (σ9.2 a0 6) 1)) (v10 + (1 : Int32))) (zbd (f_X10_grant a0 ((σ9.1 (σ9.2 (σ9.2 a0 6) 1) v10.toNatClampNeg) + (σ9.1 (σ9.2 (σ9.2 a0 6) 1) (v10 + (1 : Int32)).toNatClampNeg)) σ9) (fun r12 σ13 => some (r12, σ13)))))))))))))
theorem c_X10_says (X : zX) (d : Nat) (hd : 4 ≤ d) (a0 : Nat) (x1 : Int32) (x2 : Int32) (σ : zS) : ∀ (r : Int32) (σ' : zS), f_X10_says a0 x1 x2 σ = some (r, σ') → zCN X WC d M_X10_says [.ref a0, .int x1, .int x2] σ (zeI r, σ') := by
  obtain ⟨d, rfl⟩ : ∃ e, d = e + 1 := ⟨d - 1, by omega⟩
  refine z_entry [.ref a0, .int x1, .int x2] (by decide +kernel) T_X10_says (Nat.le_of_ble_eq_true rfl) ?_
  show zK X WC (zrm (d + 1)) M_X10_says (zZ X WC zeI) 0 [some (.ref a0), some (.int x1), some (.int x2), none] [] σ (f_X10_says a0 x1 x2 σ)
  unfold f_X10_says
  refine z_ck (fun h0 => ?_)
  refine z_aload0 0 1 rfl rfl ?_
  refine z_iload1 1 2 rfl rfl ?_
  refine z_cV1I 2 5 rfl rfl zl_X10_279 F_X10_isHidden (zR_rm (by omega)) (c_X10_isHidden X d a0 x1 σ) ⟨by decide, rfl, rfl⟩ h0 rfl (Nat.le_of_ble_eq_true rfl) (fun r3 σ4 => ?_)
  refine z_if_eq 3 8 16 rfl rfl (by decide) ?_ ?_
  · exact z_wk (zle_e (zle_n (zle_n (zle_e zle_0)))) (t_X10_says_16 X d hd a0 h0  σ4)
  · refine z_aload0 4 9 rfl rfl ?_
    refine z_iload2 5 10 rfl rfl ?_
    refine z_cV1I 6 13 rfl rfl zl_X10_188 F_X10_isMatter (zR_rm (by omega)) (c_X10_isMatter X d a0 x2 σ4) ⟨by decide, rfl, rfl⟩ h0 rfl (Nat.le_of_ble_eq_true rfl) (fun r5 σ6 => ?_)
    refine z_if_ne 7 16 22 rfl rfl (by decide) ?_ ?_
    · exact z_wk (zle_e (zle_n (zle_n (zle_e zle_0)))) (t_X10_says_16 X d hd a0 h0  σ6)
    · refine z_aload0 12 23 rfl rfl ?_
      refine z_getR 13 26 6 rfl rfl zf_X10_47 rfl h0 ?_
      refine z_aload0 14 27 rfl rfl ?_
      refine z_getR 15 30 8 rfl rfl zf_X10_61 rfl h0 ?_
      refine z_aload0 16 31 rfl rfl ?_
      refine z_getR 17 34 1 rfl rfl zf_X10_19 rfl h0 ?_
      refine z_ck (fun h7 => ?_)
      refine z_cV2V 18 37 rfl rfl zl_X10_274 F_X2_find (zR_rm (by omega)) (c_X2_find X d (by omega) (σ6.2 a0 6) (σ6.2 a0 8) (σ6.2 a0 1) σ6) ⟨by decide, rfl, rfl⟩ h7 rfl (Nat.le_of_ble_eq_true rfl) (fun r8 σ9 => ?_)
      refine z_iload1 19 38 rfl rfl ?_
      refine z_bipush 20 40 rfl rfl cb_9 ?_
      refine z_imul 21 41 rfl rfl ?_
      refine z_iconst 22 42 rfl rfl ci_2 ?_
      refine z_iload2 23 43 rfl rfl ?_
      refine z_imul 24 44 rfl rfl ?_
      refine z_iadd 25 45 rfl rfl ?_
      refine z_istore3 26 46 rfl rfl rfl (fun v10 => ?_)
      refine z_aload0 27 47 rfl rfl ?_
      refine z_aload0 28 48 rfl rfl ?_
      refine z_getR 29 51 6 rfl rfl zf_X10_47 rfl h0 ?_
      refine z_ck (fun h11 => ?_)
      refine z_getR 30 54 1 rfl rfl zf_X10_285 rfl h11 ?_
      refine z_iload3 31 55 rfl rfl ?_
      refine z_iald 32 56 rfl rfl ?_
      refine z_aload0 33 57 rfl rfl ?_
      refine z_getR 34 60 6 rfl rfl zf_X10_47 rfl h0 ?_
      refine z_getR 35 63 1 rfl rfl zf_X10_285 rfl h11 ?_
      refine z_iload3 36 64 rfl rfl ?_
      refine z_iconst 37 65 rfl rfl ci_1 ?_
      refine z_iadd 38 66 rfl rfl ?_
      refine z_iald 39 67 rfl rfl ?_
      refine z_iadd 40 68 rfl rfl ?_
      refine z_cV1I 41 71 rfl rfl zl_X10_121 F_X10_grant (zR_rm (by omega)) (c_X10_grant X d a0 ((σ9.1 (σ9.2 (σ9.2 a0 6) 1) v10.toNatClampNeg) + (σ9.1 (σ9.2 (σ9.2 a0 6) 1) (v10 + (1 : Int32)).toNatClampNeg)) σ9) ⟨by decide, rfl, rfl⟩ h0 rfl (Nat.le_of_ble_eq_true rfl) (fun r12 σ13 => ?_)
      exact z_iret 42 rfl rfl
def f_X10_ask (a0 : Nat) (σ : zS) : Option (Int32 × zS) := zck (WC.2 a0 = (10, 0)) (zbd (f_X10_noLetter a0 σ) (fun r1 σ2 => zbr (r1 = 0) (zck (WC.2 (σ2.2 a0 6) = (2, 0)) (zbd (f_X2_find (σ2.2 a0 6) (σ2.2 a0 8) (σ2.2 a0 1) σ2) (fun r4 σ5 => zck (WC.2 (σ5.2 a0 6) = (2, 0)) (zbd (f_X2_lineToAsk (σ5.2 a0 6) σ5) (fun r7 σ8 => zbd (f_X10_grant a0 r7 σ8) (fun r9 σ10 => some (r9, σ10))))))) (zbd (f_X10_refuse a0 (1 : Int32) σ2) (fun r11 σ12 => some (r11, σ12)))))
theorem c_X10_ask (X : zX) (d : Nat) (hd : 4 ≤ d) (a0 : Nat) (σ : zS) : ∀ (r : Int32) (σ' : zS), f_X10_ask a0 σ = some (r, σ') → zCN X WC d M_X10_ask [.ref a0] σ (zeI r, σ') := by
  obtain ⟨d, rfl⟩ : ∃ e, d = e + 1 := ⟨d - 1, by omega⟩
  refine z_entry [.ref a0] (by decide +kernel) T_X10_ask (Nat.le_of_ble_eq_true rfl) ?_
  show zK X WC (zrm (d + 1)) M_X10_ask (zZ X WC zeI) 0 [some (.ref a0)] [] σ (f_X10_ask a0 σ)
  unfold f_X10_ask
  refine z_ck (fun h0 => ?_)
  refine z_aload0 0 1 rfl rfl ?_
  refine z_cV0I 1 4 rfl rfl zl_X10_198 F_X10_noLetter (zR_rm (by omega)) (c_X10_noLetter X d a0 σ) ⟨by decide, rfl, rfl⟩ h0 rfl (Nat.le_of_ble_eq_true rfl) (fun r1 σ2 => ?_)
  refine z_if_eq 2 7 13 rfl rfl (by decide) ?_ ?_
  · refine z_aload0 7 14 rfl rfl ?_
    refine z_getR 8 17 6 rfl rfl zf_X10_47 rfl h0 ?_
    refine z_aload0 9 18 rfl rfl ?_
    refine z_getR 10 21 8 rfl rfl zf_X10_61 rfl h0 ?_
    refine z_aload0 11 22 rfl rfl ?_
    refine z_getR 12 25 1 rfl rfl zf_X10_19 rfl h0 ?_
    refine z_ck (fun h3 => ?_)
    refine z_cV2V 13 28 rfl rfl zl_X10_274 F_X2_find (zR_rm (by omega)) (c_X2_find X d (by omega) (σ2.2 a0 6) (σ2.2 a0 8) (σ2.2 a0 1) σ2) ⟨by decide, rfl, rfl⟩ h3 rfl (Nat.le_of_ble_eq_true rfl) (fun r4 σ5 => ?_)
    refine z_aload0 14 29 rfl rfl ?_
    refine z_aload0 15 30 rfl rfl ?_
    refine z_getR 16 33 6 rfl rfl zf_X10_47 rfl h0 ?_
    refine z_ck (fun h6 => ?_)
    refine z_cV0I 17 36 rfl rfl zl_X10_288 F_X2_lineToAsk (zR_rm (by omega)) (c_X2_lineToAsk X d (by omega) (σ5.2 a0 6) σ5) ⟨by decide, rfl, rfl⟩ h6 rfl (Nat.le_of_ble_eq_true rfl) (fun r7 σ8 => ?_)
    refine z_cV1I 18 39 rfl rfl zl_X10_121 F_X10_grant (zR_rm (by omega)) (c_X10_grant X d a0 r7 σ8) ⟨by decide, rfl, rfl⟩ h0 rfl (Nat.le_of_ble_eq_true rfl) (fun r9 σ10 => ?_)
    exact z_iret 19 rfl rfl
  · refine z_aload0 3 8 rfl rfl ?_
    refine z_iconst 4 9 rfl rfl ci_1 ?_
    refine z_cV1I 5 12 rfl rfl zl_X10_82 F_X10_refuse (zR_rm (by omega)) (c_X10_refuse X d a0 (1 : Int32) σ2) ⟨by decide, rfl, rfl⟩ h0 rfl (Nat.le_of_ble_eq_true rfl) (fun r11 σ12 => ?_)
    exact z_iret 6 rfl rfl
def f_X10_askLeaves_56 (a0 : Nat) (s0 : Nat) (s1 : Int32) (σ : zS) : Option (Int32 × zS) := zck (WC.2 s0 = (10, 0)) (zbd (f_X10_grant s0 s1 σ) (fun r2 σ3 => some (r2, σ3)))
theorem t_X10_askLeaves_56 (X : zX) (d : Nat) (hd : 4 ≤ d + 1) (a0 : Nat) (h0 : WC.2 a0 = (10, 0)) (s0 : Nat) (s1 : Int32) (σ : zS) : zK X WC (zrm (d + 1)) M_X10_askLeaves (zZ X WC zeI) 56 [some (.ref a0), none] [.int s1, .ref s0] σ (f_X10_askLeaves_56 a0 s0 s1 σ) := by
  unfold f_X10_askLeaves_56
  refine z_ck (fun h1 => ?_)
  refine z_cV1I 28 59 rfl rfl zl_X10_121 F_X10_grant (zR_rm (by omega)) (c_X10_grant X d s0 s1 σ) ⟨by decide, rfl, rfl⟩ h1 rfl (Nat.le_of_ble_eq_true rfl) (fun r2 σ3 => ?_)
  exact z_iret 29 rfl rfl
def f_X10_askLeaves (a0 : Nat) (σ : zS) : Option (Int32 × zS) := zck (WC.2 a0 = (10, 0)) (zbd (f_X10_noLetter a0 σ) (fun r4 σ5 => zbr (r4 = 0) (zck (WC.2 (σ5.2 a0 6) = (2, 0)) (zbd (f_X2_find (σ5.2 a0 6) (σ5.2 a0 8) (σ5.2 a0 1) σ5) (fun r7 σ8 => zck (WC.2 (σ8.2 a0 6) = (2, 0)) (zbd (f_X2_lineToAsk (σ8.2 a0 6) σ8) (fun r10 σ11 => zlt r10 (fun v12 => zbr (v12 = (-2 : Int32)) (f_X10_askLeaves_56 a0 a0 (-2 : Int32) σ11) (zck (WC.2 (σ11.2 a0 6) = (2, 0)) (zbd (f_X2_mostLeft (σ11.2 a0 6) v12 σ11) (fun r14 σ15 => f_X10_askLeaves_56 a0 a0 r14 σ15))))))))) (zbd (f_X10_refuse a0 (1 : Int32) σ5) (fun r16 σ17 => some (r16, σ17)))))
theorem c_X10_askLeaves (X : zX) (d : Nat) (hd : 4 ≤ d) (a0 : Nat) (σ : zS) : ∀ (r : Int32) (σ' : zS), f_X10_askLeaves a0 σ = some (r, σ') → zCN X WC d M_X10_askLeaves [.ref a0] σ (zeI r, σ') := by
  obtain ⟨d, rfl⟩ : ∃ e, d = e + 1 := ⟨d - 1, by omega⟩
  refine z_entry [.ref a0] (by decide +kernel) T_X10_askLeaves (Nat.le_of_ble_eq_true rfl) ?_
  show zK X WC (zrm (d + 1)) M_X10_askLeaves (zZ X WC zeI) 0 [some (.ref a0), none] [] σ (f_X10_askLeaves a0 σ)
  unfold f_X10_askLeaves
  refine z_ck (fun h0 => ?_)
  refine z_aload0 0 1 rfl rfl ?_
  refine z_cV0I 1 4 rfl rfl zl_X10_198 F_X10_noLetter (zR_rm (by omega)) (c_X10_noLetter X d a0 σ) ⟨by decide, rfl, rfl⟩ h0 rfl (Nat.le_of_ble_eq_true rfl) (fun r4 σ5 => ?_)
  refine z_if_eq 2 7 13 rfl rfl (by decide) ?_ ?_
  · refine z_aload0 7 14 rfl rfl ?_
    refine z_getR 8 17 6 rfl rfl zf_X10_47 rfl h0 ?_
    refine z_aload0 9 18 rfl rfl ?_
    refine z_getR 10 21 8 rfl rfl zf_X10_61 rfl h0 ?_
    refine z_aload0 11 22 rfl rfl ?_
    refine z_getR 12 25 1 rfl rfl zf_X10_19 rfl h0 ?_
    refine z_ck (fun h6 => ?_)
    refine z_cV2V 13 28 rfl rfl zl_X10_274 F_X2_find (zR_rm (by omega)) (c_X2_find X d (by omega) (σ5.2 a0 6) (σ5.2 a0 8) (σ5.2 a0 1) σ5) ⟨by decide, rfl, rfl⟩ h6 rfl (Nat.le_of_ble_eq_true rfl) (fun r7 σ8 => ?_)
    refine z_aload0 14 29 rfl rfl ?_
    refine z_getR 15 32 6 rfl rfl zf_X10_47 rfl h0 ?_
    refine z_ck (fun h9 => ?_)
    refine z_cV0I 16 35 rfl rfl zl_X10_288 F_X2_lineToAsk (zR_rm (by omega)) (c_X2_lineToAsk X d (by omega) (σ8.2 a0 6) σ8) ⟨by decide, rfl, rfl⟩ h9 rfl (Nat.le_of_ble_eq_true rfl) (fun r10 σ11 => ?_)
    refine z_istore1 17 36 rfl rfl rfl (fun v12 => ?_)
    refine z_aload0 18 37 rfl rfl ?_
    refine z_iload1 19 38 rfl rfl ?_
    refine z_bipush 20 40 rfl rfl cb_m2 ?_
    refine z_icmp_ne 21 43 48 rfl rfl (by decide) ?_ ?_
    · refine z_bipush 22 45 rfl rfl cb_m2 ?_
      refine z_goto 23 56 rfl (by decide) ?_
      exact z_wk (zle_e (zle_n zle_0)) (t_X10_askLeaves_56 X d hd a0 h0  a0 (-2 : Int32) σ11)
    · refine z_aload0 24 49 rfl rfl ?_
      refine z_getR 25 52 6 rfl rfl zf_X10_47 rfl h0 ?_
      refine z_iload1 26 53 rfl rfl ?_
      refine z_ck (fun h13 => ?_)
      refine z_cV1I 27 56 rfl rfl zl_X10_291 F_X2_mostLeft (zR_rm (by omega)) (c_X2_mostLeft X d (by omega) (σ11.2 a0 6) v12 σ11) ⟨by decide, rfl, rfl⟩ h13 rfl (Nat.le_of_ble_eq_true rfl) (fun r14 σ15 => ?_)
      exact z_wk (zle_e (zle_n zle_0)) (t_X10_askLeaves_56 X d hd a0 h0  a0 r14 σ15)
  · refine z_aload0 3 8 rfl rfl ?_
    refine z_iconst 4 9 rfl rfl ci_1 ?_
    refine z_cV1I 5 12 rfl rfl zl_X10_82 F_X10_refuse (zR_rm (by omega)) (c_X10_refuse X d a0 (1 : Int32) σ5) ⟨by decide, rfl, rfl⟩ h0 rfl (Nat.le_of_ble_eq_true rfl) (fun r16 σ17 => ?_)
    exact z_iret 6 rfl rfl
def f_X10_judge_86 (a0 : Nat) (H28 : Nat → Int32 → Int32 → zS → Option (Int32 × zS)) (x1 : Nat) (x2 : Int32) (x3 : Int32) (σ : zS) : Option (Int32 × zS) := zlt (x3 + (1 : Int32)) (fun v1 => H28 x1 x2 v1 σ)
theorem t_X10_judge_86 (X : zX) (d : Nat) (hd : 2 ≤ d + 1) (a0 : Nat) (h0 : WC.2 a0 = (10, 0)) (H28 : Nat → Int32 → Int32 → zS → Option (Int32 × zS)) (hH28 : ∀ (x1 : Nat) (x2 : Int32) (x3 : Int32) (σ : zS), zK X WC (zrm (d + 1)) M_X10_judge (zZ X WC zeI) 28 [some (.ref a0), some (.ref x1), some (.int x2), some (.int x3), none] [] σ (H28 x1 x2 x3 σ)) (x1 : Nat) (x2 : Int32) (x3 : Int32) (σ : zS) : zK X WC (zrm (d + 1)) M_X10_judge (zZ X WC zeI) 86 [some (.ref a0), some (.ref x1), some (.int x2), some (.int x3), none] [] σ (f_X10_judge_86 a0 H28 x1 x2 x3 σ) := by
  unfold f_X10_judge_86
  refine z_iinc3 47 89 rfl rfl ci_1 rfl (fun v1 => ?_)
  refine z_goto 48 28 rfl (by decide) ?_
  exact hH28 x1 x2 v1 σ
def f_X10_judge_28 (a0 : Nat) : Nat → Nat → Int32 → Int32 → zS → Option (Int32 × zS)
  | 0, _, _, _, _ => none
  | n + 1, x1, x2, x3, σ => zck (WC.2 (σ.2 a0 8) = (3, 0)) (zbr ((σ.1 (σ.2 a0 8) 13) ≤ x3) (zbd (f_X10_grant a0 (-2 : Int32) σ) (fun r3 σ4 => some (r3, σ4))) (zck (zok 100 (WC.2 (σ.2 (σ.2 a0 8) 5)) x3) (zlt (σ.1 (σ.2 (σ.2 a0 8) 5) x3.toNatClampNeg) (fun v5 => zbr (v5 = (-1 : Int32)) (f_X10_judge_86 a0 (f_X10_judge_28 a0 n) x1 x2 x3 σ) (zck (WC.2 x1 = (6, 0)) (zbd (f_X6_placesOf x1 x3 x2 σ) (fun r7 σ8 => zbd (f_X6_dosOf x1 x3 x2 σ8) (fun r9 σ10 => zck (WC.2 (σ.2 a0 1) = (5, 0)) (zbd (f_X5_outcome (σ.2 a0 1) r7 r9 σ10) (fun r12 σ13 => zbr (v5 = r12) (f_X10_judge_86 a0 (f_X10_judge_28 a0 n) x1 x2 x3 σ13) (zbd (f_X10_grant a0 x3 σ13) (fun r14 σ15 => some (r14, σ15)))))))))))))
theorem t_X10_judge_28 (X : zX) (d : Nat) (hd : 2 ≤ d + 1) (a0 : Nat) (h0 : WC.2 a0 = (10, 0)) : ∀ (n : Nat) (x1 : Nat) (x2 : Int32) (x3 : Int32) (σ : zS), zK X WC (zrm (d + 1)) M_X10_judge (zZ X WC zeI) 28 [some (.ref a0), some (.ref x1), some (.int x2), some (.int x3), none] [] σ (f_X10_judge_28 a0 n x1 x2 x3 σ) := by
  intro n
  induction n with
  | zero => intro x1 x2 x3 σ; exact z_none
  | succ n ih =>
    intro x1 x2 x3 σ
    rw [f_X10_judge_28]
    refine z_iload3 16 29 rfl rfl ?_
    refine z_aload0 17 30 rfl rfl ?_
    refine z_getR 18 33 8 rfl rfl zf_X10_61 rfl h0 ?_
    refine z_ck (fun h2 => ?_)
    refine z_getI 19 36 13 rfl rfl zf_X10_202 rfl h2 ?_
    refine z_icmp_ge 20 39 92 rfl rfl (by decide) ?_ ?_
    · refine z_aload0 49 93 rfl rfl ?_
      refine z_bipush 50 95 rfl rfl cb_m2 ?_
      refine z_cV1I 51 98 rfl rfl zl_X10_121 F_X10_grant (zR_rm (by omega)) (c_X10_grant X d a0 (-2 : Int32) σ) ⟨by decide, rfl, rfl⟩ h0 rfl (Nat.le_of_ble_eq_true rfl) (fun r3 σ4 => ?_)
      exact z_iret 52 rfl rfl
    · refine z_aload0 21 40 rfl rfl ?_
      refine z_getR 22 43 8 rfl rfl zf_X10_61 rfl h0 ?_
      refine z_getR 23 46 5 rfl rfl zf_X10_294 rfl h2 ?_
      refine z_iload3 24 47 rfl rfl ?_
      refine z_iald 25 48 rfl rfl ?_
      refine z_istore4 26 50 rfl rfl rfl (fun v5 => ?_)
      refine z_iload4 27 52 rfl rfl ?_
      refine z_iconst 28 53 rfl rfl ci_m1 ?_
      refine z_icmp_eq 29 56 86 rfl rfl (by decide) ?_ ?_
      · exact z_wk (zle_e (zle_e (zle_e (zle_e (zle_n zle_0))))) (t_X10_judge_86 X d hd a0 h0 (f_X10_judge_28 a0 n) ih x1 x2 x3 σ)
      · refine z_iload4 30 58 rfl rfl ?_
        refine z_aload0 31 59 rfl rfl ?_
        refine z_getR 32 62 1 rfl rfl zf_X10_19 rfl h0 ?_
        refine z_aload1 33 63 rfl rfl ?_
        refine z_iload3 34 64 rfl rfl ?_
        refine z_iload2 35 65 rfl rfl ?_
        refine z_ck (fun h6 => ?_)
        refine z_cV2I 36 68 rfl rfl zl_X10_223 F_X6_placesOf (zR_rm (by omega)) (c_X6_placesOf X d x1 x3 x2 σ) ⟨by decide, rfl, rfl⟩ h6 rfl (Nat.le_of_ble_eq_true rfl) (fun r7 σ8 => ?_)
        refine z_aload1 37 69 rfl rfl ?_
        refine z_iload3 38 70 rfl rfl ?_
        refine z_iload2 39 71 rfl rfl ?_
        refine z_cV2I 40 74 rfl rfl zl_X10_232 F_X6_dosOf (zR_rm (by omega)) (c_X6_dosOf X d x1 x3 x2 σ8) ⟨by decide, rfl, rfl⟩ h6 rfl (Nat.le_of_ble_eq_true rfl) (fun r9 σ10 => ?_)
        refine z_ck (fun h11 => ?_)
        refine z_cV2I 41 77 rfl rfl zl_X10_235 F_X5_outcome (zR_rm (by omega)) (c_X5_outcome X d (by omega) (σ.2 a0 1) r7 r9 σ10) ⟨by decide, rfl, rfl⟩ h11 rfl (Nat.le_of_ble_eq_true rfl) (fun r12 σ13 => ?_)
        refine z_icmp_eq 42 80 86 rfl rfl (by decide) ?_ ?_
        · exact z_wk (zle_e (zle_e (zle_e (zle_e (zle_n zle_0))))) (t_X10_judge_86 X d hd a0 h0 (f_X10_judge_28 a0 n) ih x1 x2 x3 σ13)
        · refine z_aload0 43 81 rfl rfl ?_
          refine z_iload3 44 82 rfl rfl ?_
          refine z_cV1I 45 85 rfl rfl zl_X10_121 F_X10_grant (zR_rm (by omega)) (c_X10_grant X d a0 x3 σ13) ⟨by decide, rfl, rfl⟩ h0 rfl (Nat.le_of_ble_eq_true rfl) (fun r14 σ15 => ?_)
          exact z_iret 46 rfl rfl
def f_X10_judge (a0 : Nat) (σ : zS) : Option (Int32 × zS) := zck (WC.2 a0 = (10, 0)) (zbd (f_X10_noLetter a0 σ) (fun r16 σ17 => zbr (r16 = 0) (zck (WC.2 (σ17.2 a0 8) = (3, 0)) (zlt (σ17.2 (σ17.2 a0 8) 7) (fun v19 => zck (WC.2 v19 = (6, 0)) (zbd (f_X6_read v19 σ17) (fun r21 σ22 => zlt r21 (fun v23 => zlt (0 : Int32) (fun v24 => f_X10_judge_28 a0 FU v19 v23 v24 σ22))))))) (zbd (f_X10_refuse a0 (1 : Int32) σ17) (fun r25 σ26 => some (r25, σ26)))))
theorem c_X10_judge (X : zX) (d : Nat) (hd : 2 ≤ d) (a0 : Nat) (σ : zS) : ∀ (r : Int32) (σ' : zS), f_X10_judge a0 σ = some (r, σ') → zCN X WC d M_X10_judge [.ref a0] σ (zeI r, σ') := by
  obtain ⟨d, rfl⟩ : ∃ e, d = e + 1 := ⟨d - 1, by omega⟩
  refine z_entry [.ref a0] (by decide +kernel) T_X10_judge (Nat.le_of_ble_eq_true rfl) ?_
  show zK X WC (zrm (d + 1)) M_X10_judge (zZ X WC zeI) 0 [some (.ref a0), none, none, none, none] [] σ (f_X10_judge a0 σ)
  unfold f_X10_judge
  refine z_ck (fun h0 => ?_)
  refine z_aload0 0 1 rfl rfl ?_
  refine z_cV0I 1 4 rfl rfl zl_X10_198 F_X10_noLetter (zR_rm (by omega)) (c_X10_noLetter X d a0 σ) ⟨by decide, rfl, rfl⟩ h0 rfl (Nat.le_of_ble_eq_true rfl) (fun r16 σ17 => ?_)
  refine z_if_eq 2 7 13 rfl rfl (by decide) ?_ ?_
  · refine z_aload0 7 14 rfl rfl ?_
    refine z_getR 8 17 8 rfl rfl zf_X10_61 rfl h0 ?_
    refine z_ck (fun h18 => ?_)
    refine z_getR 9 20 7 rfl rfl zf_X10_97 rfl h18 ?_
    refine z_astore1 10 21 rfl rfl rfl (fun v19 => ?_)
    refine z_aload1 11 22 rfl rfl ?_
    refine z_ck (fun h20 => ?_)
    refine z_cV0I 12 25 rfl rfl zl_X10_181 F_X6_read (zR_rm (by omega)) (c_X6_read X d v19 σ17) ⟨by decide, rfl, rfl⟩ h20 rfl (Nat.le_of_ble_eq_true rfl) (fun r21 σ22 => ?_)
    refine z_istore2 13 26 rfl rfl rfl (fun v23 => ?_)
    refine z_iconst 14 27 rfl rfl ci_0 ?_
    refine z_istore3 15 28 rfl rfl rfl (fun v24 => ?_)
    exact t_X10_judge_28 X d hd a0 h0  FU v19 v23 v24 σ22
  · refine z_aload0 3 8 rfl rfl ?_
    refine z_iconst 4 9 rfl rfl ci_1 ?_
    refine z_cV1I 5 12 rfl rfl zl_X10_82 F_X10_refuse (zR_rm (by omega)) (c_X10_refuse X d a0 (1 : Int32) σ17) ⟨by decide, rfl, rfl⟩ h0 rfl (Nat.le_of_ble_eq_true rfl) (fun r25 σ26 => ?_)
    exact z_iret 6 rfl rfl
def f_X10_isInk (x0 : Int32) (σ : zS) : Option (Int32 × zS) := zbr (x0 < 0) (zck (zb (0 : Int32)) (some ((0 : Int32), σ))) (zbr ((9 : Int32) < x0) (zck (zb (0 : Int32)) (some ((0 : Int32), σ))) (zck (zb (1 : Int32)) (some ((1 : Int32), σ))))
theorem c_X10_isInk (X : zX) (d : Nat) (x0 : Int32) (σ : zS) : ∀ (r : Int32) (σ' : zS), f_X10_isInk x0 σ = some (r, σ') → zCN X WC d M_X10_isInk [.int x0] σ (zeI r, σ') := by
  refine z_entry [.int x0] (by decide +kernel) T_X10_isInk (Nat.le_of_ble_eq_true rfl) ?_
  show zK X WC (zrm d) M_X10_isInk (zZ X WC zeI) 0 [some (.int x0)] [] σ (f_X10_isInk x0 σ)
  unfold f_X10_isInk
  refine z_iload0 0 1 rfl rfl ?_
  refine z_if_lt 1 4 14 rfl rfl (by decide) ?_ ?_
  · refine z_iconst 7 15 rfl rfl ci_0 ?_
    exact z_zret 8 rfl rfl
  · refine z_iload0 2 5 rfl rfl ?_
    refine z_bipush 3 7 rfl rfl cb_9 ?_
    refine z_icmp_gt 4 10 14 rfl rfl (by decide) ?_ ?_
    · refine z_iconst 7 15 rfl rfl ci_0 ?_
      exact z_zret 8 rfl rfl
    · refine z_iconst 5 11 rfl rfl ci_1 ?_
      refine z_goto 6 15 rfl (by decide) ?_
      exact z_zret 8 rfl rfl
def f_X10_footOf (x0 : Int32) (x1 : Int32) (x2 : Int32) (σ : zS) : Option (Int32 × zS) := zbr (x1 = 0) (zbr (x2 = 0) (some ((3 : Int32), σ)) (some ((0 : Int32), σ))) (zbr (x2 = 0) (some (((4 : Int32) - x0), σ)) (some ((1 : Int32), σ)))
theorem c_X10_footOf (X : zX) (d : Nat) (x0 : Int32) (x1 : Int32) (x2 : Int32) (σ : zS) : ∀ (r : Int32) (σ' : zS), f_X10_footOf x0 x1 x2 σ = some (r, σ') → zCN X WC d M_X10_footOf [.int x0, .int x1, .int x2] σ (zeI r, σ') := by
  refine z_entry [.int x0, .int x1, .int x2] (by decide +kernel) T_X10_footOf (Nat.le_of_ble_eq_true rfl) ?_
  show zK X WC (zrm d) M_X10_footOf (zZ X WC zeI) 0 [some (.int x0), some (.int x1), some (.int x2)] [] σ (f_X10_footOf x0 x1 x2 σ)
  unfold f_X10_footOf
  refine z_iload1 0 1 rfl rfl ?_
  refine z_if_eq 1 4 16 rfl rfl (by decide) ?_ ?_
  · refine z_iload2 10 17 rfl rfl ?_
    refine z_if_eq 11 20 24 rfl rfl (by decide) ?_ ?_
    · refine z_iconst 14 25 rfl rfl ci_3 ?_
      exact z_iret 15 rfl rfl
    · refine z_iconst 12 21 rfl rfl ci_0 ?_
      refine z_goto 13 25 rfl (by decide) ?_
      exact z_iret 15 rfl rfl
  · refine z_iload2 2 5 rfl rfl ?_
    refine z_if_eq 3 8 12 rfl rfl (by decide) ?_ ?_
    · refine z_iconst 6 13 rfl rfl ci_4 ?_
      refine z_iload0 7 14 rfl rfl ?_
      refine z_isub 8 15 rfl rfl ?_
      exact z_iret 9 rfl rfl
    · refine z_iconst 4 9 rfl rfl ci_1 ?_
      refine z_goto 5 15 rfl (by decide) ?_
      exact z_iret 9 rfl rfl
def f_X10_foot_53 (a0 : Nat) (s0 : Nat) (s1 : Int32) (σ : zS) : Option (Int32 × zS) := zck (WC.2 s0 = (10, 0)) (zbd (f_X10_grant s0 s1 σ) (fun r2 σ3 => some (r2, σ3)))
theorem t_X10_foot_53 (X : zX) (d : Nat) (hd : 1 ≤ d + 1) (a0 : Nat) (h0 : WC.2 a0 = (10, 0)) (s0 : Nat) (s1 : Int32) (σ : zS) : zK X WC (zrm (d + 1)) M_X10_foot (zZ X WC zeI) 53 [some (.ref a0), none, none, none, none] [.int s1, .ref s0] σ (f_X10_foot_53 a0 s0 s1 σ) := by
  unfold f_X10_foot_53
  refine z_ck (fun h1 => ?_)
  refine z_cV1I 30 56 rfl rfl zl_X10_121 F_X10_grant (zR_rm (by omega)) (c_X10_grant X d s0 s1 σ) ⟨by decide, rfl, rfl⟩ h1 rfl (Nat.le_of_ble_eq_true rfl) (fun r2 σ3 => ?_)
  exact z_iret 31 rfl rfl
def f_X10_foot (a0 : Nat) (x1 : Int32) (x2 : Int32) (x3 : Int32) (x4 : Int32) (σ : zS) : Option (Int32 × zS) := zck (WC.2 a0 = (10, 0)) (zbd (f_X10_noLetter a0 σ) (fun r4 σ5 => zbr (r4 = 0) (zbd (f_X10_isInk x1 σ5) (fun r6 σ7 => zbr (r6 = 0) (zbd (f_X10_refuse a0 (2 : Int32) σ7) (fun r8 σ9 => some ((-100 : Int32), σ9))) (zbr (x4 = 0) (zbd (f_X10_footOf x1 x2 x3 σ7) (fun r10 σ11 => f_X10_foot_53 a0 a0 r10 σ11)) (zbd (f_X10_footOf x1 x3 x2 σ7) (fun r12 σ13 => f_X10_foot_53 a0 a0 r12 σ13))))) (zbd (f_X10_refuse a0 (1 : Int32) σ5) (fun r14 σ15 => some ((-100 : Int32), σ15)))))
theorem c_X10_foot (X : zX) (d : Nat) (hd : 1 ≤ d) (a0 : Nat) (x1 : Int32) (x2 : Int32) (x3 : Int32) (x4 : Int32) (σ : zS) : ∀ (r : Int32) (σ' : zS), f_X10_foot a0 x1 x2 x3 x4 σ = some (r, σ') → zCN X WC d M_X10_foot [.ref a0, .int x1, .int x2, .int x3, .int x4] σ (zeI r, σ') := by
  obtain ⟨d, rfl⟩ : ∃ e, d = e + 1 := ⟨d - 1, by omega⟩
  refine z_entry [.ref a0, .int x1, .int x2, .int x3, .int x4] (by decide +kernel) T_X10_foot (Nat.le_of_ble_eq_true rfl) ?_
  show zK X WC (zrm (d + 1)) M_X10_foot (zZ X WC zeI) 0 [some (.ref a0), some (.int x1), some (.int x2), some (.int x3), some (.int x4)] [] σ (f_X10_foot a0 x1 x2 x3 x4 σ)
  unfold f_X10_foot
  refine z_ck (fun h0 => ?_)
  refine z_aload0 0 1 rfl rfl ?_
  refine z_cV0I 1 4 rfl rfl zl_X10_198 F_X10_noLetter (zR_rm (by omega)) (c_X10_noLetter X d a0 σ) ⟨by decide, rfl, rfl⟩ h0 rfl (Nat.le_of_ble_eq_true rfl) (fun r4 σ5 => ?_)
  refine z_if_eq 2 7 16 rfl rfl (by decide) ?_ ?_
  · refine z_iload1 9 17 rfl rfl ?_
    refine z_cS1I 10 20 rfl rfl zl_X10_297 F_X10_isInk (zR_rm (by omega)) (c_X10_isInk X d x1 σ5) rfl (Nat.le_of_ble_eq_true rfl) (fun r6 σ7 => ?_)
    refine z_if_ne 11 23 32 rfl rfl (by decide) ?_ ?_
    · refine z_aload0 12 24 rfl rfl ?_
      refine z_iconst 13 25 rfl rfl ci_2 ?_
      refine z_cV1I 14 28 rfl rfl zl_X10_82 F_X10_refuse (zR_rm (by omega)) (c_X10_refuse X d a0 (2 : Int32) σ7) ⟨by decide, rfl, rfl⟩ h0 rfl (Nat.le_of_ble_eq_true rfl) (fun r8 σ9 => ?_)
      refine z_pop 15 29 rfl rfl rfl ?_
      refine z_bipush 16 31 rfl rfl cb_m100 ?_
      exact z_iret 17 rfl rfl
    · refine z_aload0 18 33 rfl rfl ?_
      refine z_iload4 19 35 rfl rfl ?_
      refine z_if_eq 20 38 47 rfl rfl (by decide) ?_ ?_
      · refine z_iload1 26 48 rfl rfl ?_
        refine z_iload2 27 49 rfl rfl ?_
        refine z_iload3 28 50 rfl rfl ?_
        refine z_cS3I 29 53 rfl rfl zl_X10_300 F_X10_footOf (zR_rm (by omega)) (c_X10_footOf X d x1 x2 x3 σ7) rfl (Nat.le_of_ble_eq_true rfl) (fun r10 σ11 => ?_)
        exact z_wk (zle_e (zle_n (zle_n (zle_n (zle_n zle_0))))) (t_X10_foot_53 X d hd a0 h0  a0 r10 σ11)
      · refine z_iload1 21 39 rfl rfl ?_
        refine z_iload3 22 40 rfl rfl ?_
        refine z_iload2 23 41 rfl rfl ?_
        refine z_cS3I 24 44 rfl rfl zl_X10_300 F_X10_footOf (zR_rm (by omega)) (c_X10_footOf X d x1 x3 x2 σ7) rfl (Nat.le_of_ble_eq_true rfl) (fun r12 σ13 => ?_)
        refine z_goto 25 53 rfl (by decide) ?_
        exact z_wk (zle_e (zle_n (zle_n (zle_n (zle_n zle_0))))) (t_X10_foot_53 X d hd a0 h0  a0 r12 σ13)
  · refine z_aload0 3 8 rfl rfl ?_
    refine z_iconst 4 9 rfl rfl ci_1 ?_
    refine z_cV1I 5 12 rfl rfl zl_X10_82 F_X10_refuse (zR_rm (by omega)) (c_X10_refuse X d a0 (1 : Int32) σ5) ⟨by decide, rfl, rfl⟩ h0 rfl (Nat.le_of_ble_eq_true rfl) (fun r14 σ15 => ?_)
    refine z_pop 6 13 rfl rfl rfl ?_
    refine z_bipush 7 15 rfl rfl cb_m100 ?_
    exact z_iret 8 rfl rfl
def f_X10_isRest_39 (x1 : Int32) (s0 : Int32) (s1 : Int32) (s2 : Int32) (σ : zS) : Option (Int32 × zS) := zbd (f_X10_footOf s1 s2 x1 σ) (fun r1 σ2 => zbr (s0 < r1) (zck (zb (0 : Int32)) (some ((0 : Int32), σ2))) (zck (zb (1 : Int32)) (some ((1 : Int32), σ2))))
theorem t_X10_isRest_39 (X : zX) (d : Nat) (hd : 1 ≤ d + 1) (x1 : Int32) (s0 : Int32) (s1 : Int32) (s2 : Int32) (σ : zS) : zK X WC (zrm (d + 1)) M_X10_isRest (zZ X WC zeI) 39 [none, some (.int x1), none] [.int s2, .int s1, .int s0] σ (f_X10_isRest_39 x1 s0 s1 s2 σ) := by
  unfold f_X10_isRest_39
  refine z_iload1 23 40 rfl rfl ?_
  refine z_cS3I 24 43 rfl rfl zl_X10_300 F_X10_footOf (zR_rm (by omega)) (c_X10_footOf X d s1 s2 x1 σ) rfl (Nat.le_of_ble_eq_true rfl) (fun r1 σ2 => ?_)
  refine z_icmp_lt 25 46 50 rfl rfl (by decide) ?_ ?_
  · refine z_iconst 28 51 rfl rfl ci_0 ?_
    exact z_zret 29 rfl rfl
  · refine z_iconst 26 47 rfl rfl ci_1 ?_
    refine z_goto 27 51 rfl (by decide) ?_
    exact z_zret 29 rfl rfl
def f_X10_isRest_16 (x0 : Int32) (x1 : Int32) (x2 : Int32) (s0 : Int32) (s1 : Int32) (s2 : Int32) (σ : zS) : Option (Int32 × zS) := zbd (f_X10_footOf s1 s2 x2 σ) (fun r3 σ4 => zbr (s0 < r3) (zck (zb (0 : Int32)) (some ((0 : Int32), σ4))) (zbd (f_X10_footOf x0 x2 x1 σ4) (fun r5 σ6 => zbr (x2 = 0) (f_X10_isRest_39 x1 r5 x0 (1 : Int32) σ6) (f_X10_isRest_39 x1 r5 x0 (0 : Int32) σ6))))
theorem t_X10_isRest_16 (X : zX) (d : Nat) (hd : 1 ≤ d + 1) (x0 : Int32) (x1 : Int32) (x2 : Int32) (s0 : Int32) (s1 : Int32) (s2 : Int32) (σ : zS) : zK X WC (zrm (d + 1)) M_X10_isRest (zZ X WC zeI) 16 [some (.int x0), some (.int x1), some (.int x2)] [.int s2, .int s1, .int s0] σ (f_X10_isRest_16 x0 x1 x2 s0 s1 s2 σ) := by
  unfold f_X10_isRest_16
  refine z_iload2 10 17 rfl rfl ?_
  refine z_cS3I 11 20 rfl rfl zl_X10_300 F_X10_footOf (zR_rm (by omega)) (c_X10_footOf X d s1 s2 x2 σ) rfl (Nat.le_of_ble_eq_true rfl) (fun r3 σ4 => ?_)
  refine z_icmp_lt 12 23 50 rfl rfl (by decide) ?_ ?_
  · refine z_iconst 28 51 rfl rfl ci_0 ?_
    exact z_zret 29 rfl rfl
  · refine z_iload0 13 24 rfl rfl ?_
    refine z_iload2 14 25 rfl rfl ?_
    refine z_iload1 15 26 rfl rfl ?_
    refine z_cS3I 16 29 rfl rfl zl_X10_300 F_X10_footOf (zR_rm (by omega)) (c_X10_footOf X d x0 x2 x1 σ4) rfl (Nat.le_of_ble_eq_true rfl) (fun r5 σ6 => ?_)
    refine z_iload0 17 30 rfl rfl ?_
    refine z_iload2 18 31 rfl rfl ?_
    refine z_if_ne 19 34 38 rfl rfl (by decide) ?_ ?_
    · refine z_iconst 20 35 rfl rfl ci_1 ?_
      refine z_goto 21 39 rfl (by decide) ?_
      exact z_wk (zle_n (zle_e (zle_n zle_0))) (t_X10_isRest_39 X d hd  x1 r5 x0 (1 : Int32) σ6)
    · refine z_iconst 22 39 rfl rfl ci_0 ?_
      exact z_wk (zle_n (zle_e (zle_n zle_0))) (t_X10_isRest_39 X d hd  x1 r5 x0 (0 : Int32) σ6)
def f_X10_isRest (x0 : Int32) (x1 : Int32) (x2 : Int32) (σ : zS) : Option (Int32 × zS) := zbd (f_X10_footOf x0 x1 x2 σ) (fun r7 σ8 => zbr (x1 = 0) (f_X10_isRest_16 x0 x1 x2 r7 x0 (1 : Int32) σ8) (f_X10_isRest_16 x0 x1 x2 r7 x0 (0 : Int32) σ8))
theorem c_X10_isRest (X : zX) (d : Nat) (hd : 1 ≤ d) (x0 : Int32) (x1 : Int32) (x2 : Int32) (σ : zS) : ∀ (r : Int32) (σ' : zS), f_X10_isRest x0 x1 x2 σ = some (r, σ') → zCN X WC d M_X10_isRest [.int x0, .int x1, .int x2] σ (zeI r, σ') := by
  obtain ⟨d, rfl⟩ : ∃ e, d = e + 1 := ⟨d - 1, by omega⟩
  refine z_entry [.int x0, .int x1, .int x2] (by decide +kernel) T_X10_isRest (Nat.le_of_ble_eq_true rfl) ?_
  show zK X WC (zrm (d + 1)) M_X10_isRest (zZ X WC zeI) 0 [some (.int x0), some (.int x1), some (.int x2)] [] σ (f_X10_isRest x0 x1 x2 σ)
  unfold f_X10_isRest
  refine z_iload0 0 1 rfl rfl ?_
  refine z_iload1 1 2 rfl rfl ?_
  refine z_iload2 2 3 rfl rfl ?_
  refine z_cS3I 3 6 rfl rfl zl_X10_300 F_X10_footOf (zR_rm (by omega)) (c_X10_footOf X d x0 x1 x2 σ) rfl (Nat.le_of_ble_eq_true rfl) (fun r7 σ8 => ?_)
  refine z_iload0 4 7 rfl rfl ?_
  refine z_iload1 5 8 rfl rfl ?_
  refine z_if_ne 6 11 15 rfl rfl (by decide) ?_ ?_
  · refine z_iconst 7 12 rfl rfl ci_1 ?_
    refine z_goto 8 16 rfl (by decide) ?_
    exact t_X10_isRest_16 X d hd  x0 x1 x2 r7 x0 (1 : Int32) σ8
  · refine z_iconst 9 16 rfl rfl ci_0 ?_
    exact t_X10_isRest_16 X d hd  x0 x1 x2 r7 x0 (0 : Int32) σ8
def f_X10_rests_67 (a0 : Nat) (H30 : Int32 → Int32 → Int32 → zS → Option (Int32 × zS)) (x1 : Int32) (x2 : Int32) (x3 : Int32) (σ : zS) : Option (Int32 × zS) := zlt (x3 + (1 : Int32)) (fun v1 => H30 x1 x2 v1 σ)
theorem t_X10_rests_67 (X : zX) (d : Nat) (hd : 2 ≤ d + 1) (a0 : Nat) (h0 : WC.2 a0 = (10, 0)) (H30 : Int32 → Int32 → Int32 → zS → Option (Int32 × zS)) (hH30 : ∀ (x1 : Int32) (x2 : Int32) (x3 : Int32) (σ : zS), zK X WC (zrm (d + 1)) M_X10_rests (zZ X WC zeI) 30 [some (.ref a0), some (.int x1), some (.int x2), some (.int x3)] [] σ (H30 x1 x2 x3 σ)) (x1 : Int32) (x2 : Int32) (x3 : Int32) (σ : zS) : zK X WC (zrm (d + 1)) M_X10_rests (zZ X WC zeI) 67 [some (.ref a0), some (.int x1), some (.int x2), some (.int x3)] [] σ (f_X10_rests_67 a0 H30 x1 x2 x3 σ) := by
  unfold f_X10_rests_67
  refine z_iinc3 39 70 rfl rfl ci_1 rfl (fun v1 => ?_)
  refine z_goto 40 30 rfl (by decide) ?_
  exact hH30 x1 x2 v1 σ
def f_X10_rests_58 (a0 : Nat) (H30 : Int32 → Int32 → Int32 → zS → Option (Int32 × zS)) (x1 : Int32) (x2 : Int32) (x3 : Int32) (s0 : Int32) (s1 : Int32) (s2 : Int32) (σ : zS) : Option (Int32 × zS) := zbd (f_X10_isRest s0 s1 s2 σ) (fun r2 σ3 => zbr (r2 = 0) (f_X10_rests_67 a0 H30 x1 x2 x3 σ3) (zlt (x2 + (1 : Int32)) (fun v4 => f_X10_rests_67 a0 H30 x1 v4 x3 σ3)))
theorem t_X10_rests_58 (X : zX) (d : Nat) (hd : 2 ≤ d + 1) (a0 : Nat) (h0 : WC.2 a0 = (10, 0)) (H30 : Int32 → Int32 → Int32 → zS → Option (Int32 × zS)) (hH30 : ∀ (x1 : Int32) (x2 : Int32) (x3 : Int32) (σ : zS), zK X WC (zrm (d + 1)) M_X10_rests (zZ X WC zeI) 30 [some (.ref a0), some (.int x1), some (.int x2), some (.int x3)] [] σ (H30 x1 x2 x3 σ)) (x1 : Int32) (x2 : Int32) (x3 : Int32) (s0 : Int32) (s1 : Int32) (s2 : Int32) (σ : zS) : zK X WC (zrm (d + 1)) M_X10_rests (zZ X WC zeI) 58 [some (.ref a0), some (.int x1), some (.int x2), some (.int x3)] [.int s2, .int s1, .int s0] σ (f_X10_rests_58 a0 H30 x1 x2 x3 s0 s1 s2 σ) := by
  unfold f_X10_rests_58
  refine z_cS3I 36 61 rfl rfl zl_X10_304 F_X10_isRest (zR_rm (by omega)) (c_X10_isRest X d (by omega) s0 s1 s2 σ) rfl (Nat.le_of_ble_eq_true rfl) (fun r2 σ3 => ?_)
  refine z_if_eq 37 64 67 rfl rfl (by decide) ?_ ?_
  · exact t_X10_rests_67 X d hd a0 h0 H30 hH30 x1 x2 x3 σ3
  · refine z_iinc2 38 67 rfl rfl ci_1 rfl (fun v4 => ?_)
    exact t_X10_rests_67 X d hd a0 h0 H30 hH30 x1 v4 x3 σ3
def f_X10_rests_46 (a0 : Nat) (H30 : Int32 → Int32 → Int32 → zS → Option (Int32 × zS)) (x1 : Int32) (x2 : Int32) (x3 : Int32) (s0 : Int32) (s1 : Int32) (σ : zS) : Option (Int32 × zS) := zck (¬ (2 : Int32) = 0) (zbr ((x3 - x3 / (2 : Int32) * (2 : Int32)) = (1 : Int32)) (f_X10_rests_58 a0 H30 x1 x2 x3 s0 s1 (1 : Int32) σ) (f_X10_rests_58 a0 H30 x1 x2 x3 s0 s1 (0 : Int32) σ))
theorem t_X10_rests_46 (X : zX) (d : Nat) (hd : 2 ≤ d + 1) (a0 : Nat) (h0 : WC.2 a0 = (10, 0)) (H30 : Int32 → Int32 → Int32 → zS → Option (Int32 × zS)) (hH30 : ∀ (x1 : Int32) (x2 : Int32) (x3 : Int32) (σ : zS), zK X WC (zrm (d + 1)) M_X10_rests (zZ X WC zeI) 30 [some (.ref a0), some (.int x1), some (.int x2), some (.int x3)] [] σ (H30 x1 x2 x3 σ)) (x1 : Int32) (x2 : Int32) (x3 : Int32) (s0 : Int32) (s1 : Int32) (σ : zS) : zK X WC (zrm (d + 1)) M_X10_rests (zZ X WC zeI) 46 [some (.ref a0), some (.int x1), some (.int x2), some (.int x3)] [.int s1, .int s0] σ (f_X10_rests_46 a0 H30 x1 x2 x3 s0 s1 σ) := by
  unfold f_X10_rests_46
  refine z_iload3 28 47 rfl rfl ?_
  refine z_iconst 29 48 rfl rfl ci_2 ?_
  refine z_ck (fun h5 => ?_)
  refine z_irem 30 49 rfl rfl h5 ?_
  refine z_iconst 31 50 rfl rfl ci_1 ?_
  refine z_icmp_ne 32 53 57 rfl rfl (by decide) ?_ ?_
  · refine z_iconst 33 54 rfl rfl ci_1 ?_
    refine z_goto 34 58 rfl (by decide) ?_
    exact t_X10_rests_58 X d hd a0 h0 H30 hH30 x1 x2 x3 s0 s1 (1 : Int32) σ
  · refine z_iconst 35 58 rfl rfl ci_0 ?_
    exact t_X10_rests_58 X d hd a0 h0 H30 hH30 x1 x2 x3 s0 s1 (0 : Int32) σ
def f_X10_rests_30 (a0 : Nat) : Nat → Int32 → Int32 → Int32 → zS → Option (Int32 × zS)
  | 0, _, _, _, _ => none
  | n + 1, x1, x2, x3, σ => zbr ((4 : Int32) ≤ x3) (zbd (f_X10_grant a0 x2 σ) (fun r6 σ7 => some (r6, σ7))) (zbr (x3 < (2 : Int32)) (f_X10_rests_46 a0 (f_X10_rests_30 a0 n) x1 x2 x3 x1 (0 : Int32) σ) (f_X10_rests_46 a0 (f_X10_rests_30 a0 n) x1 x2 x3 x1 (1 : Int32) σ))
theorem t_X10_rests_30 (X : zX) (d : Nat) (hd : 2 ≤ d + 1) (a0 : Nat) (h0 : WC.2 a0 = (10, 0)) : ∀ (n : Nat) (x1 : Int32) (x2 : Int32) (x3 : Int32) (σ : zS), zK X WC (zrm (d + 1)) M_X10_rests (zZ X WC zeI) 30 [some (.ref a0), some (.int x1), some (.int x2), some (.int x3)] [] σ (f_X10_rests_30 a0 n x1 x2 x3 σ) := by
  intro n
  induction n with
  | zero => intro x1 x2 x3 σ; exact z_none
  | succ n ih =>
    intro x1 x2 x3 σ
    rw [f_X10_rests_30]
    refine z_iload3 18 31 rfl rfl ?_
    refine z_iconst 19 32 rfl rfl ci_4 ?_
    refine z_icmp_ge 20 35 73 rfl rfl (by decide) ?_ ?_
    · refine z_aload0 41 74 rfl rfl ?_
      refine z_iload2 42 75 rfl rfl ?_
      refine z_cV1I 43 78 rfl rfl zl_X10_121 F_X10_grant (zR_rm (by omega)) (c_X10_grant X d a0 x2 σ) ⟨by decide, rfl, rfl⟩ h0 rfl (Nat.le_of_ble_eq_true rfl) (fun r6 σ7 => ?_)
      exact z_iret 44 rfl rfl
    · refine z_iload1 21 36 rfl rfl ?_
      refine z_iload3 22 37 rfl rfl ?_
      refine z_iconst 23 38 rfl rfl ci_2 ?_
      refine z_icmp_lt 24 41 45 rfl rfl (by decide) ?_ ?_
      · refine z_iconst 27 46 rfl rfl ci_0 ?_
        exact t_X10_rests_46 X d hd a0 h0 (f_X10_rests_30 a0 n) ih x1 x2 x3 x1 (0 : Int32) σ
      · refine z_iconst 25 42 rfl rfl ci_1 ?_
        refine z_goto 26 46 rfl (by decide) ?_
        exact t_X10_rests_46 X d hd a0 h0 (f_X10_rests_30 a0 n) ih x1 x2 x3 x1 (1 : Int32) σ
def f_X10_rests (a0 : Nat) (x1 : Int32) (σ : zS) : Option (Int32 × zS) := zck (WC.2 a0 = (10, 0)) (zbd (f_X10_noLetter a0 σ) (fun r8 σ9 => zbr (r8 = 0) (zbd (f_X10_isInk x1 σ9) (fun r10 σ11 => zbr (r10 = 0) (zbd (f_X10_refuse a0 (2 : Int32) σ11) (fun r12 σ13 => some (r12, σ13))) (zlt (0 : Int32) (fun v14 => zlt (0 : Int32) (fun v15 => f_X10_rests_30 a0 FU x1 v14 v15 σ11))))) (zbd (f_X10_refuse a0 (1 : Int32) σ9) (fun r16 σ17 => some (r16, σ17)))))
theorem c_X10_rests (X : zX) (d : Nat) (hd : 2 ≤ d) (a0 : Nat) (x1 : Int32) (σ : zS) : ∀ (r : Int32) (σ' : zS), f_X10_rests a0 x1 σ = some (r, σ') → zCN X WC d M_X10_rests [.ref a0, .int x1] σ (zeI r, σ') := by
  obtain ⟨d, rfl⟩ : ∃ e, d = e + 1 := ⟨d - 1, by omega⟩
  refine z_entry [.ref a0, .int x1] (by decide +kernel) T_X10_rests (Nat.le_of_ble_eq_true rfl) ?_
  show zK X WC (zrm (d + 1)) M_X10_rests (zZ X WC zeI) 0 [some (.ref a0), some (.int x1), none, none] [] σ (f_X10_rests a0 x1 σ)
  unfold f_X10_rests
  refine z_ck (fun h0 => ?_)
  refine z_aload0 0 1 rfl rfl ?_
  refine z_cV0I 1 4 rfl rfl zl_X10_198 F_X10_noLetter (zR_rm (by omega)) (c_X10_noLetter X d a0 σ) ⟨by decide, rfl, rfl⟩ h0 rfl (Nat.le_of_ble_eq_true rfl) (fun r8 σ9 => ?_)
  refine z_if_eq 2 7 13 rfl rfl (by decide) ?_ ?_
  · refine z_iload1 7 14 rfl rfl ?_
    refine z_cS1I 8 17 rfl rfl zl_X10_297 F_X10_isInk (zR_rm (by omega)) (c_X10_isInk X d x1 σ9) rfl (Nat.le_of_ble_eq_true rfl) (fun r10 σ11 => ?_)
    refine z_if_ne 9 20 26 rfl rfl (by decide) ?_ ?_
    · refine z_aload0 10 21 rfl rfl ?_
      refine z_iconst 11 22 rfl rfl ci_2 ?_
      refine z_cV1I 12 25 rfl rfl zl_X10_82 F_X10_refuse (zR_rm (by omega)) (c_X10_refuse X d a0 (2 : Int32) σ11) ⟨by decide, rfl, rfl⟩ h0 rfl (Nat.le_of_ble_eq_true rfl) (fun r12 σ13 => ?_)
      exact z_iret 13 rfl rfl
    · refine z_iconst 14 27 rfl rfl ci_0 ?_
      refine z_istore2 15 28 rfl rfl rfl (fun v14 => ?_)
      refine z_iconst 16 29 rfl rfl ci_0 ?_
      refine z_istore3 17 30 rfl rfl rfl (fun v15 => ?_)
      exact t_X10_rests_30 X d hd a0 h0  FU x1 v14 v15 σ11
  · refine z_aload0 3 8 rfl rfl ?_
    refine z_iconst 4 9 rfl rfl ci_1 ?_
    refine z_cV1I 5 12 rfl rfl zl_X10_82 F_X10_refuse (zR_rm (by omega)) (c_X10_refuse X d a0 (1 : Int32) σ9) ⟨by decide, rfl, rfl⟩ h0 rfl (Nat.le_of_ble_eq_true rfl) (fun r16 σ17 => ?_)
    exact z_iret 6 rfl rfl
def f_X10_rest_56 (a0 : Nat) (H28 : Int32 → Int32 → zS → Option (Int32 × zS)) (x1 : Int32) (x2 : Int32) (s0 : Int32) (s1 : Int32) (s2 : Int32) (σ : zS) : Option (Int32 × zS) := zbd (f_X10_isRest s0 s1 s2 σ) (fun r1 σ2 => zbr (r1 = 0) (zlt (x2 + (1 : Int32)) (fun v3 => H28 x1 v3 σ2)) (zck (¬ (2 : Int32) = 0) (zck (¬ (2 : Int32) = 0) (zbd (f_X10_grant a0 (((10 : Int32) * (x2 / (2 : Int32))) + (x2 - x2 / (2 : Int32) * (2 : Int32))) σ2) (fun r6 σ7 => some (r6, σ7))))))
theorem t_X10_rest_56 (X : zX) (d : Nat) (hd : 2 ≤ d + 1) (a0 : Nat) (h0 : WC.2 a0 = (10, 0)) (H28 : Int32 → Int32 → zS → Option (Int32 × zS)) (hH28 : ∀ (x1 : Int32) (x2 : Int32) (σ : zS), zK X WC (zrm (d + 1)) M_X10_rest (zZ X WC zeI) 28 [some (.ref a0), some (.int x1), some (.int x2)] [] σ (H28 x1 x2 σ)) (x1 : Int32) (x2 : Int32) (s0 : Int32) (s1 : Int32) (s2 : Int32) (σ : zS) : zK X WC (zrm (d + 1)) M_X10_rest (zZ X WC zeI) 56 [some (.ref a0), some (.int x1), some (.int x2)] [.int s2, .int s1, .int s0] σ (f_X10_rest_56 a0 H28 x1 x2 s0 s1 s2 σ) := by
  unfold f_X10_rest_56
  refine z_cS3I 34 59 rfl rfl zl_X10_304 F_X10_isRest (zR_rm (by omega)) (c_X10_isRest X d (by omega) s0 s1 s2 σ) rfl (Nat.le_of_ble_eq_true rfl) (fun r1 σ2 => ?_)
  refine z_if_eq 35 62 77 rfl rfl (by decide) ?_ ?_
  · refine z_iinc2 48 80 rfl rfl ci_1 rfl (fun v3 => ?_)
    refine z_goto 49 28 rfl (by decide) ?_
    exact hH28 x1 v3 σ2
  · refine z_aload0 36 63 rfl rfl ?_
    refine z_bipush 37 65 rfl rfl cb_10 ?_
    refine z_iload2 38 66 rfl rfl ?_
    refine z_iconst 39 67 rfl rfl ci_2 ?_
    refine z_ck (fun h4 => ?_)
    refine z_idiv 40 68 rfl rfl h4 ?_
    refine z_imul 41 69 rfl rfl ?_
    refine z_iload2 42 70 rfl rfl ?_
    refine z_iconst 43 71 rfl rfl ci_2 ?_
    refine z_ck (fun h5 => ?_)
    refine z_irem 44 72 rfl rfl h5 ?_
    refine z_iadd 45 73 rfl rfl ?_
    refine z_cV1I 46 76 rfl rfl zl_X10_121 F_X10_grant (zR_rm (by omega)) (c_X10_grant X d a0 (((10 : Int32) * (x2 / (2 : Int32))) + (x2 - x2 / (2 : Int32) * (2 : Int32))) σ2) ⟨by decide, rfl, rfl⟩ h0 rfl (Nat.le_of_ble_eq_true rfl) (fun r6 σ7 => ?_)
    exact z_iret 47 rfl rfl
def f_X10_rest_44 (a0 : Nat) (H28 : Int32 → Int32 → zS → Option (Int32 × zS)) (x1 : Int32) (x2 : Int32) (s0 : Int32) (s1 : Int32) (σ : zS) : Option (Int32 × zS) := zck (¬ (2 : Int32) = 0) (zbr ((x2 - x2 / (2 : Int32) * (2 : Int32)) = (1 : Int32)) (f_X10_rest_56 a0 H28 x1 x2 s0 s1 (1 : Int32) σ) (f_X10_rest_56 a0 H28 x1 x2 s0 s1 (0 : Int32) σ))
theorem t_X10_rest_44 (X : zX) (d : Nat) (hd : 2 ≤ d + 1) (a0 : Nat) (h0 : WC.2 a0 = (10, 0)) (H28 : Int32 → Int32 → zS → Option (Int32 × zS)) (hH28 : ∀ (x1 : Int32) (x2 : Int32) (σ : zS), zK X WC (zrm (d + 1)) M_X10_rest (zZ X WC zeI) 28 [some (.ref a0), some (.int x1), some (.int x2)] [] σ (H28 x1 x2 σ)) (x1 : Int32) (x2 : Int32) (s0 : Int32) (s1 : Int32) (σ : zS) : zK X WC (zrm (d + 1)) M_X10_rest (zZ X WC zeI) 44 [some (.ref a0), some (.int x1), some (.int x2)] [.int s1, .int s0] σ (f_X10_rest_44 a0 H28 x1 x2 s0 s1 σ) := by
  unfold f_X10_rest_44
  refine z_iload2 26 45 rfl rfl ?_
  refine z_iconst 27 46 rfl rfl ci_2 ?_
  refine z_ck (fun h8 => ?_)
  refine z_irem 28 47 rfl rfl h8 ?_
  refine z_iconst 29 48 rfl rfl ci_1 ?_
  refine z_icmp_ne 30 51 55 rfl rfl (by decide) ?_ ?_
  · refine z_iconst 31 52 rfl rfl ci_1 ?_
    refine z_goto 32 56 rfl (by decide) ?_
    exact t_X10_rest_56 X d hd a0 h0 H28 hH28 x1 x2 s0 s1 (1 : Int32) σ
  · refine z_iconst 33 56 rfl rfl ci_0 ?_
    exact t_X10_rest_56 X d hd a0 h0 H28 hH28 x1 x2 s0 s1 (0 : Int32) σ
def f_X10_rest_28 (a0 : Nat) : Nat → Int32 → Int32 → zS → Option (Int32 × zS)
  | 0, _, _, _ => none
  | n + 1, x1, x2, σ => zbr ((4 : Int32) ≤ x2) (zbd (f_X10_grant a0 (-2 : Int32) σ) (fun r9 σ10 => some (r9, σ10))) (zbr (x2 < (2 : Int32)) (f_X10_rest_44 a0 (f_X10_rest_28 a0 n) x1 x2 x1 (0 : Int32) σ) (f_X10_rest_44 a0 (f_X10_rest_28 a0 n) x1 x2 x1 (1 : Int32) σ))
theorem t_X10_rest_28 (X : zX) (d : Nat) (hd : 2 ≤ d + 1) (a0 : Nat) (h0 : WC.2 a0 = (10, 0)) : ∀ (n : Nat) (x1 : Int32) (x2 : Int32) (σ : zS), zK X WC (zrm (d + 1)) M_X10_rest (zZ X WC zeI) 28 [some (.ref a0), some (.int x1), some (.int x2)] [] σ (f_X10_rest_28 a0 n x1 x2 σ) := by
  intro n
  induction n with
  | zero => intro x1 x2 σ; exact z_none
  | succ n ih =>
    intro x1 x2 σ
    rw [f_X10_rest_28]
    refine z_iload2 16 29 rfl rfl ?_
    refine z_iconst 17 30 rfl rfl ci_4 ?_
    refine z_icmp_ge 18 33 83 rfl rfl (by decide) ?_ ?_
    · refine z_aload0 50 84 rfl rfl ?_
      refine z_bipush 51 86 rfl rfl cb_m2 ?_
      refine z_cV1I 52 89 rfl rfl zl_X10_121 F_X10_grant (zR_rm (by omega)) (c_X10_grant X d a0 (-2 : Int32) σ) ⟨by decide, rfl, rfl⟩ h0 rfl (Nat.le_of_ble_eq_true rfl) (fun r9 σ10 => ?_)
      exact z_iret 53 rfl rfl
    · refine z_iload1 19 34 rfl rfl ?_
      refine z_iload2 20 35 rfl rfl ?_
      refine z_iconst 21 36 rfl rfl ci_2 ?_
      refine z_icmp_lt 22 39 43 rfl rfl (by decide) ?_ ?_
      · refine z_iconst 25 44 rfl rfl ci_0 ?_
        exact t_X10_rest_44 X d hd a0 h0 (f_X10_rest_28 a0 n) ih x1 x2 x1 (0 : Int32) σ
      · refine z_iconst 23 40 rfl rfl ci_1 ?_
        refine z_goto 24 44 rfl (by decide) ?_
        exact t_X10_rest_44 X d hd a0 h0 (f_X10_rest_28 a0 n) ih x1 x2 x1 (1 : Int32) σ
def f_X10_rest (a0 : Nat) (x1 : Int32) (σ : zS) : Option (Int32 × zS) := zck (WC.2 a0 = (10, 0)) (zbd (f_X10_noLetter a0 σ) (fun r11 σ12 => zbr (r11 = 0) (zbd (f_X10_isInk x1 σ12) (fun r13 σ14 => zbr (r13 = 0) (zbd (f_X10_refuse a0 (2 : Int32) σ14) (fun r15 σ16 => some (r15, σ16))) (zlt (0 : Int32) (fun v17 => f_X10_rest_28 a0 FU x1 v17 σ14)))) (zbd (f_X10_refuse a0 (1 : Int32) σ12) (fun r18 σ19 => some (r18, σ19)))))
theorem c_X10_rest (X : zX) (d : Nat) (hd : 2 ≤ d) (a0 : Nat) (x1 : Int32) (σ : zS) : ∀ (r : Int32) (σ' : zS), f_X10_rest a0 x1 σ = some (r, σ') → zCN X WC d M_X10_rest [.ref a0, .int x1] σ (zeI r, σ') := by
  obtain ⟨d, rfl⟩ : ∃ e, d = e + 1 := ⟨d - 1, by omega⟩
  refine z_entry [.ref a0, .int x1] (by decide +kernel) T_X10_rest (Nat.le_of_ble_eq_true rfl) ?_
  show zK X WC (zrm (d + 1)) M_X10_rest (zZ X WC zeI) 0 [some (.ref a0), some (.int x1), none] [] σ (f_X10_rest a0 x1 σ)
  unfold f_X10_rest
  refine z_ck (fun h0 => ?_)
  refine z_aload0 0 1 rfl rfl ?_
  refine z_cV0I 1 4 rfl rfl zl_X10_198 F_X10_noLetter (zR_rm (by omega)) (c_X10_noLetter X d a0 σ) ⟨by decide, rfl, rfl⟩ h0 rfl (Nat.le_of_ble_eq_true rfl) (fun r11 σ12 => ?_)
  refine z_if_eq 2 7 13 rfl rfl (by decide) ?_ ?_
  · refine z_iload1 7 14 rfl rfl ?_
    refine z_cS1I 8 17 rfl rfl zl_X10_297 F_X10_isInk (zR_rm (by omega)) (c_X10_isInk X d x1 σ12) rfl (Nat.le_of_ble_eq_true rfl) (fun r13 σ14 => ?_)
    refine z_if_ne 9 20 26 rfl rfl (by decide) ?_ ?_
    · refine z_aload0 10 21 rfl rfl ?_
      refine z_iconst 11 22 rfl rfl ci_2 ?_
      refine z_cV1I 12 25 rfl rfl zl_X10_82 F_X10_refuse (zR_rm (by omega)) (c_X10_refuse X d a0 (2 : Int32) σ14) ⟨by decide, rfl, rfl⟩ h0 rfl (Nat.le_of_ble_eq_true rfl) (fun r15 σ16 => ?_)
      exact z_iret 13 rfl rfl
    · refine z_iconst 14 27 rfl rfl ci_0 ?_
      refine z_istore2 15 28 rfl rfl rfl (fun v17 => ?_)
      exact t_X10_rest_28 X d hd a0 h0  FU x1 v17 σ14
  · refine z_aload0 3 8 rfl rfl ?_
    refine z_iconst 4 9 rfl rfl ci_1 ?_
    refine z_cV1I 5 12 rfl rfl zl_X10_82 F_X10_refuse (zR_rm (by omega)) (c_X10_refuse X d a0 (1 : Int32) σ12) ⟨by decide, rfl, rfl⟩ h0 rfl (Nat.le_of_ble_eq_true rfl) (fun r18 σ19 => ?_)
    exact z_iret 6 rfl rfl
def f_X10_raised_5 : Nat → Int64 → Int32 → Int64 → Int32 → zS → Option (Int64 × zS)
  | 0, _, _, _, _, _ => none
  | n + 1, x0, x2, x3, x5, σ => zbr (x2 ≤ x5) (some (x3, σ)) (zlt (x3 * x0) (fun v1 => zlt (x5 + (1 : Int32)) (fun v2 => f_X10_raised_5 n x0 x2 v1 v2 σ)))
theorem t_X10_raised_5 (X : zX) (d : Nat) : ∀ (n : Nat) (x0 : Int64) (x2 : Int32) (x3 : Int64) (x5 : Int32) (σ : zS), zK X WC (zrm d) M_X10_raised (zZ X WC zeL) 5 [some (.long x0), none, some (.int x2), some (.long x3), none, some (.int x5)] [] σ (f_X10_raised_5 n x0 x2 x3 x5 σ) := by
  intro n
  induction n with
  | zero => intro x0 x2 x3 x5 σ; exact z_none
  | succ n ih =>
    intro x0 x2 x3 x5 σ
    rw [f_X10_raised_5]
    refine z_iload5 4 7 rfl rfl ?_
    refine z_iload2 5 8 rfl rfl ?_
    refine z_icmp_ge 6 11 21 rfl rfl (by decide) ?_ ?_
    · refine z_lload3 13 22 rfl rfl ?_
      exact z_lret 14 rfl rfl
    · refine z_lload3 7 12 rfl rfl ?_
      refine z_lload0 8 13 rfl rfl ?_
      refine z_lmul 9 14 rfl rfl ?_
      refine z_lstore3 10 15 rfl rfl rfl (fun v1 => ?_)
      refine z_iinc5 11 18 rfl rfl ci_1 rfl (fun v2 => ?_)
      refine z_goto 12 5 rfl (by decide) ?_
      exact ih x0 x2 v1 v2 σ
def f_X10_raised (x0 : Int64) (x2 : Int32) (σ : zS) : Option (Int64 × zS) := zlt (1 : Int64) (fun v3 => zlt (0 : Int32) (fun v4 => f_X10_raised_5 FU x0 x2 v3 v4 σ))
theorem c_X10_raised (X : zX) (d : Nat) (x0 : Int64) (x2 : Int32) (σ : zS) : ∀ (r : Int64) (σ' : zS), f_X10_raised x0 x2 σ = some (r, σ') → zCN X WC d M_X10_raised [.long x0, .int x2] σ (zeL r, σ') := by
  refine z_entry [.long x0, .int x2] (by decide +kernel) T_X10_raised (Nat.le_of_ble_eq_true rfl) ?_
  show zK X WC (zrm d) M_X10_raised (zZ X WC zeL) 0 [some (.long x0), none, some (.int x2), none, none, none] [] σ (f_X10_raised x0 x2 σ)
  unfold f_X10_raised
  refine z_lconst 0 1 rfl rfl cl_1 ?_
  refine z_lstore3 1 2 rfl rfl rfl (fun v3 => ?_)
  refine z_iconst 2 3 rfl rfl ci_0 ?_
  refine z_istore5 3 5 rfl rfl rfl (fun v4 => ?_)
  exact t_X10_raised_5 X d  FU x0 x2 v3 v4 σ
def f_X10_chance_117 (a0 : Nat) (H23 : Int32 → Int32 → Int32 → Int64 → Int32 → zS → Option (Int64 × zS)) (x1 : Int32) (x2 : Int32) (x3 : Int32) (x4 : Int64) (x6 : Int32) (σ : zS) : Option (Int64 × zS) := zlt (x6 + (1 : Int32)) (fun v1 => H23 x1 x2 x3 x4 v1 σ)
theorem t_X10_chance_117 (X : zX) (d : Nat) (hd : 3 ≤ d + 1) (a0 : Nat) (h0 : WC.2 a0 = (10, 0)) (H23 : Int32 → Int32 → Int32 → Int64 → Int32 → zS → Option (Int64 × zS)) (hH23 : ∀ (x1 : Int32) (x2 : Int32) (x3 : Int32) (x4 : Int64) (x6 : Int32) (σ : zS), zK X WC (zrm (d + 1)) M_X10_chance (zZ X WC zeL) 23 [some (.ref a0), some (.int x1), some (.int x2), some (.int x3), some (.long x4), none, some (.int x6), none] [] σ (H23 x1 x2 x3 x4 x6 σ)) (x1 : Int32) (x2 : Int32) (x3 : Int32) (x4 : Int64) (x6 : Int32) (σ : zS) : zK X WC (zrm (d + 1)) M_X10_chance (zZ X WC zeL) 117 [some (.ref a0), some (.int x1), some (.int x2), some (.int x3), some (.long x4), none, some (.int x6), none] [] σ (f_X10_chance_117 a0 H23 x1 x2 x3 x4 x6 σ) := by
  unfold f_X10_chance_117
  refine z_iinc6 64 120 rfl rfl ci_1 rfl (fun v1 => ?_)
  refine z_goto 65 23 rfl (by decide) ?_
  exact hH23 x1 x2 x3 x4 v1 σ
def f_X10_chance_68 (a0 : Nat) (H23 : Int32 → Int32 → Int32 → Int64 → Int32 → zS → Option (Int64 × zS)) (x1 : Int32) (x2 : Int32) (x3 : Int32) (x4 : Int64) (x6 : Int32) (σ : zS) : Option (Int64 × zS) := zbd (f_J6_bitCount WC (x3 &&& (x6 ^^^ (-1 : Int32))) σ) (fun r2 σ3 => zlt r2 (fun v4 => zck (WC.2 (σ3.2 a0 8) = (3, 0)) (zbd (f_X10_raised ((σ3.1 (σ3.2 a0 8) 9).toInt64) v4 σ3) (fun r6 σ7 => zck (WC.2 (σ7.2 a0 8) = (3, 0)) (zbd (f_J6_bitCount WC x6 σ7) (fun r9 σ10 => zbd (f_X10_raised (((100 : Int32) - (σ7.1 (σ7.2 a0 8) 9)).toInt64) r9 σ10) (fun r11 σ12 => zlt (x4 + (r6 * r11)) (fun v13 => f_X10_chance_117 a0 H23 x1 x2 x3 v13 x6 σ12))))))))
theorem t_X10_chance_68 (X : zX) (d : Nat) (hd : 3 ≤ d + 1) (a0 : Nat) (h0 : WC.2 a0 = (10, 0)) (H23 : Int32 → Int32 → Int32 → Int64 → Int32 → zS → Option (Int64 × zS)) (hH23 : ∀ (x1 : Int32) (x2 : Int32) (x3 : Int32) (x4 : Int64) (x6 : Int32) (σ : zS), zK X WC (zrm (d + 1)) M_X10_chance (zZ X WC zeL) 23 [some (.ref a0), some (.int x1), some (.int x2), some (.int x3), some (.long x4), none, some (.int x6), none] [] σ (H23 x1 x2 x3 x4 x6 σ)) (x1 : Int32) (x2 : Int32) (x3 : Int32) (x4 : Int64) (x6 : Int32) (σ : zS) : zK X WC (zrm (d + 1)) M_X10_chance (zZ X WC zeL) 68 [some (.ref a0), some (.int x1), some (.int x2), some (.int x3), some (.long x4), none, some (.int x6), none] [] σ (f_X10_chance_68 a0 H23 x1 x2 x3 x4 x6 σ) := by
  unfold f_X10_chance_68
  refine z_iload3 38 69 rfl rfl ?_
  refine z_iload6 39 71 rfl rfl ?_
  refine z_iconst 40 72 rfl rfl ci_m1 ?_
  refine z_ixor 41 73 rfl rfl ?_
  refine z_iand 42 74 rfl rfl ?_
  refine z_cS1I 43 77 rfl rfl zl_X10_208 F_J6_bitCount (zR_rm (by omega)) (c_J6_bitCount X WC d (x3 &&& (x6 ^^^ (-1 : Int32))) σ) rfl (Nat.le_of_ble_eq_true rfl) (fun r2 σ3 => ?_)
  refine z_istore7 44 79 rfl rfl rfl (fun v4 => ?_)
  refine z_lload4 45 81 rfl rfl ?_
  refine z_aload0 46 82 rfl rfl ?_
  refine z_getR 47 85 8 rfl rfl zf_X10_61 rfl h0 ?_
  refine z_ck (fun h5 => ?_)
  refine z_getI 48 88 9 rfl rfl zf_X10_349 rfl h5 ?_
  refine z_i2l 49 89 rfl rfl ?_
  refine z_iload7 50 91 rfl rfl ?_
  refine z_cS2L 51 94 rfl rfl zl_X10_317 F_X10_raised (zR_rm (by omega)) (c_X10_raised X d ((σ3.1 (σ3.2 a0 8) 9).toInt64) v4 σ3) rfl (Nat.le_of_ble_eq_true rfl) (fun r6 σ7 => ?_)
  refine z_bipush 52 96 rfl rfl cb_100 ?_
  refine z_aload0 53 97 rfl rfl ?_
  refine z_getR 54 100 8 rfl rfl zf_X10_61 rfl h0 ?_
  refine z_ck (fun h8 => ?_)
  refine z_getI 55 103 9 rfl rfl zf_X10_349 rfl h8 ?_
  refine z_isub 56 104 rfl rfl ?_
  refine z_i2l 57 105 rfl rfl ?_
  refine z_iload6 58 107 rfl rfl ?_
  refine z_cS1I 59 110 rfl rfl zl_X10_208 F_J6_bitCount (zR_rm (by omega)) (c_J6_bitCount X WC d x6 σ7) rfl (Nat.le_of_ble_eq_true rfl) (fun r9 σ10 => ?_)
  refine z_cS2L 60 113 rfl rfl zl_X10_317 F_X10_raised (zR_rm (by omega)) (c_X10_raised X d (((100 : Int32) - (σ7.1 (σ7.2 a0 8) 9)).toInt64) r9 σ10) rfl (Nat.le_of_ble_eq_true rfl) (fun r11 σ12 => ?_)
  refine z_lmul 61 114 rfl rfl ?_
  refine z_ladd 62 115 rfl rfl ?_
  refine z_lstore4 63 117 rfl rfl rfl (fun v13 => ?_)
  exact z_wk (zle_e (zle_e (zle_e (zle_e (zle_e (zle_e (zle_e (zle_n zle_0)))))))) (t_X10_chance_117 X d hd a0 h0 H23 hH23 x1 x2 x3 v13 x6 σ12)
def f_X10_chance_23 (a0 : Nat) : Nat → Int32 → Int32 → Int32 → Int64 → Int32 → zS → Option (Int64 × zS)
  | 0, _, _, _, _, _, _ => none
  | n + 1, x1, x2, x3, x4, x6, σ => zbr (x3 < x6) (some (x4, σ)) (zbr ((x6 &&& (x3 ^^^ (-1 : Int32))) = 0) (zbr (x2 = (-1 : Int32)) (zbd (f_X10_verdict a0 x1 x6 σ) (fun r14 σ15 => zbr (r14 = (1 : Int32)) (f_X10_chance_68 a0 (f_X10_chance_23 a0 n) x1 x2 x3 x4 x6 σ15) (f_X10_chance_117 a0 (f_X10_chance_23 a0 n) x1 x2 x3 x4 x6 σ15))) (zbd (f_X10_standing a0 x1 x6 σ) (fun r16 σ17 => zbr (r16 = x2) (f_X10_chance_68 a0 (f_X10_chance_23 a0 n) x1 x2 x3 x4 x6 σ17) (f_X10_chance_117 a0 (f_X10_chance_23 a0 n) x1 x2 x3 x4 x6 σ17)))) (f_X10_chance_117 a0 (f_X10_chance_23 a0 n) x1 x2 x3 x4 x6 σ))
theorem t_X10_chance_23 (X : zX) (d : Nat) (hd : 3 ≤ d + 1) (a0 : Nat) (h0 : WC.2 a0 = (10, 0)) : ∀ (n : Nat) (x1 : Int32) (x2 : Int32) (x3 : Int32) (x4 : Int64) (x6 : Int32) (σ : zS), zK X WC (zrm (d + 1)) M_X10_chance (zZ X WC zeL) 23 [some (.ref a0), some (.int x1), some (.int x2), some (.int x3), some (.long x4), none, some (.int x6), none] [] σ (f_X10_chance_23 a0 n x1 x2 x3 x4 x6 σ) := by
  intro n
  induction n with
  | zero => intro x1 x2 x3 x4 x6 σ; exact z_none
  | succ n ih =>
    intro x1 x2 x3 x4 x6 σ
    rw [f_X10_chance_23]
    refine z_iload6 13 25 rfl rfl ?_
    refine z_iload3 14 26 rfl rfl ?_
    refine z_icmp_gt 15 29 123 rfl rfl (by decide) ?_ ?_
    · refine z_lload4 66 125 rfl rfl ?_
      exact z_lret 67 rfl rfl
    · refine z_iload6 16 31 rfl rfl ?_
      refine z_iload3 17 32 rfl rfl ?_
      refine z_iconst 18 33 rfl rfl ci_m1 ?_
      refine z_ixor 19 34 rfl rfl ?_
      refine z_iand 20 35 rfl rfl ?_
      refine z_if_ne 21 38 117 rfl rfl (by decide) ?_ ?_
      · refine z_iload2 22 39 rfl rfl ?_
        refine z_iconst 23 40 rfl rfl ci_m1 ?_
        refine z_icmp_ne 24 43 57 rfl rfl (by decide) ?_ ?_
        · refine z_aload0 25 44 rfl rfl ?_
          refine z_iload1 26 45 rfl rfl ?_
          refine z_iload6 27 47 rfl rfl ?_
          refine z_cV2I 28 50 rfl rfl zl_X10_191 F_X10_verdict (zR_rm (by omega)) (c_X10_verdict X d (by omega) a0 x1 x6 σ) ⟨by decide, rfl, rfl⟩ h0 rfl (Nat.le_of_ble_eq_true rfl) (fun r14 σ15 => ?_)
          refine z_iconst 29 51 rfl rfl ci_1 ?_
          refine z_icmp_ne 30 54 117 rfl rfl (by decide) ?_ ?_
          · refine z_goto 31 68 rfl (by decide) ?_
            exact t_X10_chance_68 X d hd a0 h0 (f_X10_chance_23 a0 n) ih x1 x2 x3 x4 x6 σ15
          · exact t_X10_chance_117 X d hd a0 h0 (f_X10_chance_23 a0 n) ih x1 x2 x3 x4 x6 σ15
        · refine z_aload0 32 58 rfl rfl ?_
          refine z_iload1 33 59 rfl rfl ?_
          refine z_iload6 34 61 rfl rfl ?_
          refine z_cV2I 35 64 rfl rfl zl_X10_195 F_X10_standing (zR_rm (by omega)) (c_X10_standing X d (by omega) a0 x1 x6 σ) ⟨by decide, rfl, rfl⟩ h0 rfl (Nat.le_of_ble_eq_true rfl) (fun r16 σ17 => ?_)
          refine z_iload2 36 65 rfl rfl ?_
          refine z_icmp_ne 37 68 117 rfl rfl (by decide) ?_ ?_
          · exact t_X10_chance_68 X d hd a0 h0 (f_X10_chance_23 a0 n) ih x1 x2 x3 x4 x6 σ17
          · exact t_X10_chance_117 X d hd a0 h0 (f_X10_chance_23 a0 n) ih x1 x2 x3 x4 x6 σ17
      · exact t_X10_chance_117 X d hd a0 h0 (f_X10_chance_23 a0 n) ih x1 x2 x3 x4 x6 σ
def f_X10_chance (a0 : Nat) (x1 : Int32) (x2 : Int32) (σ : zS) : Option (Int64 × zS) := zck (WC.2 a0 = (10, 0)) (zck (WC.2 (σ.2 a0 3) = (6, 0)) (zbd (f_X6_read (σ.2 a0 3) σ) (fun r19 σ20 => zck (WC.2 (σ20.2 a0 3) = (6, 0)) (zbd (f_X6_linesOf (σ20.2 a0 3) x1 σ20) (fun r22 σ23 => zlt (r19 &&& r22) (fun v24 => zlt (0 : Int64) (fun v25 => zlt (0 : Int32) (fun v26 => f_X10_chance_23 a0 FU x1 x2 v24 v25 v26 σ23))))))))
theorem c_X10_chance (X : zX) (d : Nat) (hd : 3 ≤ d) (a0 : Nat) (x1 : Int32) (x2 : Int32) (σ : zS) : ∀ (r : Int64) (σ' : zS), f_X10_chance a0 x1 x2 σ = some (r, σ') → zCN X WC d M_X10_chance [.ref a0, .int x1, .int x2] σ (zeL r, σ') := by
  obtain ⟨d, rfl⟩ : ∃ e, d = e + 1 := ⟨d - 1, by omega⟩
  refine z_entry [.ref a0, .int x1, .int x2] (by decide +kernel) T_X10_chance (Nat.le_of_ble_eq_true rfl) ?_
  show zK X WC (zrm (d + 1)) M_X10_chance (zZ X WC zeL) 0 [some (.ref a0), some (.int x1), some (.int x2), none, none, none, none, none] [] σ (f_X10_chance a0 x1 x2 σ)
  unfold f_X10_chance
  refine z_ck (fun h0 => ?_)
  refine z_aload0 0 1 rfl rfl ?_
  refine z_getR 1 4 3 rfl rfl zf_X10_29 rfl h0 ?_
  refine z_ck (fun h18 => ?_)
  refine z_cV0I 2 7 rfl rfl zl_X10_181 F_X6_read (zR_rm (by omega)) (c_X6_read X d (σ.2 a0 3) σ) ⟨by decide, rfl, rfl⟩ h18 rfl (Nat.le_of_ble_eq_true rfl) (fun r19 σ20 => ?_)
  refine z_aload0 3 8 rfl rfl ?_
  refine z_getR 4 11 3 rfl rfl zf_X10_29 rfl h0 ?_
  refine z_iload1 5 12 rfl rfl ?_
  refine z_ck (fun h21 => ?_)
  refine z_cV1I 6 15 rfl rfl zl_X10_366 F_X6_linesOf (zR_rm (by omega)) (c_X6_linesOf X d (σ20.2 a0 3) x1 σ20) ⟨by decide, rfl, rfl⟩ h21 rfl (Nat.le_of_ble_eq_true rfl) (fun r22 σ23 => ?_)
  refine z_iand 7 16 rfl rfl ?_
  refine z_istore3 8 17 rfl rfl rfl (fun v24 => ?_)
  refine z_lconst 9 18 rfl rfl cl_0 ?_
  refine z_lstore4 10 20 rfl rfl rfl (fun v25 => ?_)
  refine z_iconst 11 21 rfl rfl ci_0 ?_
  refine z_istore6 12 23 rfl rfl rfl (fun v26 => ?_)
  exact t_X10_chance_23 X d hd a0 h0  FU x1 x2 v24 v25 v26 σ23
def f_X10_countRead (a0 : Nat) (x1 : Int32) (σ : zS) : Option (Int32 × zS) := zck (WC.2 a0 = (10, 0)) (zck (WC.2 (σ.2 a0 3) = (6, 0)) (zbd (f_X6_read (σ.2 a0 3) σ) (fun r2 σ3 => zck (WC.2 (σ3.2 a0 3) = (6, 0)) (zbd (f_X6_linesOf (σ3.2 a0 3) x1 σ3) (fun r5 σ6 => zbd (f_J6_bitCount WC (r2 &&& r5) σ6) (fun r7 σ8 => some (r7, σ8)))))))
theorem c_X10_countRead (X : zX) (d : Nat) (hd : 1 ≤ d) (a0 : Nat) (x1 : Int32) (σ : zS) : ∀ (r : Int32) (σ' : zS), f_X10_countRead a0 x1 σ = some (r, σ') → zCN X WC d M_X10_countRead [.ref a0, .int x1] σ (zeI r, σ') := by
  obtain ⟨d, rfl⟩ : ∃ e, d = e + 1 := ⟨d - 1, by omega⟩
  refine z_entry [.ref a0, .int x1] (by decide +kernel) T_X10_countRead (Nat.le_of_ble_eq_true rfl) ?_
  show zK X WC (zrm (d + 1)) M_X10_countRead (zZ X WC zeI) 0 [some (.ref a0), some (.int x1)] [] σ (f_X10_countRead a0 x1 σ)
  unfold f_X10_countRead
  refine z_ck (fun h0 => ?_)
  refine z_aload0 0 1 rfl rfl ?_
  refine z_getR 1 4 3 rfl rfl zf_X10_29 rfl h0 ?_
  refine z_ck (fun h1 => ?_)
  refine z_cV0I 2 7 rfl rfl zl_X10_181 F_X6_read (zR_rm (by omega)) (c_X6_read X d (σ.2 a0 3) σ) ⟨by decide, rfl, rfl⟩ h1 rfl (Nat.le_of_ble_eq_true rfl) (fun r2 σ3 => ?_)
  refine z_aload0 3 8 rfl rfl ?_
  refine z_getR 4 11 3 rfl rfl zf_X10_29 rfl h0 ?_
  refine z_iload1 5 12 rfl rfl ?_
  refine z_ck (fun h4 => ?_)
  refine z_cV1I 6 15 rfl rfl zl_X10_366 F_X6_linesOf (zR_rm (by omega)) (c_X6_linesOf X d (σ3.2 a0 3) x1 σ3) ⟨by decide, rfl, rfl⟩ h4 rfl (Nat.le_of_ble_eq_true rfl) (fun r5 σ6 => ?_)
  refine z_iand 7 16 rfl rfl ?_
  refine z_cS1I 8 19 rfl rfl zl_X10_208 F_J6_bitCount (zR_rm (by omega)) (c_J6_bitCount X WC d (r2 &&& r5) σ6) rfl (Nat.le_of_ble_eq_true rfl) (fun r7 σ8 => ?_)
  exact z_iret 9 rfl rfl
def f_X10_partOf_45 (x0 : Int64) (x2 : Int64) (x4 : Int32) (x5 : Int64) (σ : zS) : Option (Int64 × zS) := zbr ((lg_cmp x5 (0 : Int64)) = 0) (some ((-1 : Int64), σ)) (zbr (x4 = 0) (zck (¬ x5 = 0) (some ((x0 / x5), σ))) (zck (¬ x5 = 0) (some ((x2 / x5), σ))))
theorem t_X10_partOf_45 (X : zX) (d : Nat) (x0 : Int64) (x2 : Int64) (x4 : Int32) (x5 : Int64) (σ : zS) : zK X WC (zrm d) M_X10_partOf (zZ X WC zeL) 45 [some (.long x0), none, some (.long x2), none, some (.int x4), some (.long x5), none, none, none, none, none, none] [] σ (f_X10_partOf_45 x0 x2 x4 x5 σ) := by
  unfold f_X10_partOf_45
  refine z_lload5 23 47 rfl rfl ?_
  refine z_lconst 24 48 rfl rfl cl_0 ?_
  refine z_lcmp 25 49 rfl rfl ?_
  refine z_if_ne 26 52 56 rfl rfl (by decide) ?_ ?_
  · refine z_ldc2 27 55 rfl rfl (v := (-1 : Int64)) (zTT_in (i := 1164) (by decide +kernel) rfl) ?_
    exact z_lret 28 rfl rfl
  · refine z_iload4 29 58 rfl rfl ?_
    refine z_if_eq 30 61 65 rfl rfl (by decide) ?_ ?_
    · refine z_lload0 33 66 rfl rfl ?_
      refine z_lload5 34 68 rfl rfl ?_
      refine z_ck (fun h1 => ?_)
      refine z_ldiv 35 69 rfl rfl h1 ?_
      exact z_lret 36 rfl rfl
    · refine z_lload2 31 62 rfl rfl ?_
      refine z_goto 32 66 rfl (by decide) ?_
      refine z_lload5 34 68 rfl rfl ?_
      refine z_ck (fun h2 => ?_)
      refine z_ldiv 35 69 rfl rfl h2 ?_
      exact z_lret 36 rfl rfl
def f_X10_partOf_9 : Nat → Int64 → Int64 → Int32 → Int64 → Int64 → Int32 → zS → Option (Int64 × zS)
  | 0, _, _, _, _, _, _, _ => none
  | n + 1, x0, x2, x4, x5, x7, x9, σ => zbr ((200 : Int32) ≤ x9) (f_X10_partOf_45 x0 x2 x4 x5 σ) (zbr ((lg_cmp x7 (0 : Int64)) = 0) (f_X10_partOf_45 x0 x2 x4 x5 σ) (zck (¬ x7 = 0) (zlt (x5 - x5 / x7 * x7) (fun v4 => zlt x7 (fun v5 => zlt v4 (fun v6 => zlt (x9 + (1 : Int32)) (fun v7 => f_X10_partOf_9 n x0 x2 x4 v5 v6 v7 σ)))))))
theorem t_X10_partOf_9 (X : zX) (d : Nat) : ∀ (n : Nat) (x0 : Int64) (x2 : Int64) (x4 : Int32) (x5 : Int64) (x7 : Int64) (x9 : Int32) (σ : zS), zK X WC (zrm d) M_X10_partOf (zZ X WC zeL) 9 [some (.long x0), none, some (.long x2), none, some (.int x4), some (.long x5), none, some (.long x7), none, some (.int x9), none, none] [] σ (f_X10_partOf_9 n x0 x2 x4 x5 x7 x9 σ) := by
  intro n
  induction n with
  | zero => intro x0 x2 x4 x5 x7 x9 σ; exact z_none
  | succ n ih =>
    intro x0 x2 x4 x5 x7 x9 σ
    rw [f_X10_partOf_9]
    refine z_iload9 6 11 rfl rfl ?_
    refine z_sipush 7 14 rfl rfl cs_200 ?_
    refine z_icmp_ge 8 17 45 rfl rfl (by decide) ?_ ?_
    · exact z_wk (zle_e (zle_e (zle_e (zle_e (zle_e (zle_e (zle_e (zle_n (zle_e (zle_n (zle_e (zle_e zle_0)))))))))))) (t_X10_partOf_45 X d  x0 x2 x4 x5 σ)
    · refine z_lload7 9 19 rfl rfl ?_
      refine z_lconst 10 20 rfl rfl cl_0 ?_
      refine z_lcmp 11 21 rfl rfl ?_
      refine z_if_eq 12 24 45 rfl rfl (by decide) ?_ ?_
      · exact z_wk (zle_e (zle_e (zle_e (zle_e (zle_e (zle_e (zle_e (zle_n (zle_e (zle_n (zle_e (zle_e zle_0)))))))))))) (t_X10_partOf_45 X d  x0 x2 x4 x5 σ)
      · refine z_lload5 13 26 rfl rfl ?_
        refine z_lload7 14 28 rfl rfl ?_
        refine z_ck (fun h3 => ?_)
        refine z_lrem 15 29 rfl rfl h3 ?_
        refine z_lstore10 16 31 rfl rfl rfl (fun v4 => ?_)
        refine z_lload7 17 33 rfl rfl ?_
        refine z_lstore5 18 35 rfl rfl rfl (fun v5 => ?_)
        refine z_lload10 19 37 rfl rfl ?_
        refine z_lstore7 20 39 rfl rfl rfl (fun v6 => ?_)
        refine z_iinc9 21 42 rfl rfl ci_1 rfl (fun v7 => ?_)
        refine z_goto 22 9 rfl (by decide) ?_
        exact z_wk (zle_e (zle_e (zle_e (zle_e (zle_e (zle_e (zle_e (zle_e (zle_e (zle_e (zle_n (zle_e zle_0)))))))))))) (ih x0 x2 x4 v5 v6 v7 σ)
def f_X10_partOf (x0 : Int64) (x2 : Int64) (x4 : Int32) (σ : zS) : Option (Int64 × zS) := zlt x2 (fun v8 => zlt x0 (fun v9 => zlt (0 : Int32) (fun v10 => f_X10_partOf_9 FU x0 x2 x4 v8 v9 v10 σ)))
theorem c_X10_partOf (X : zX) (d : Nat) (x0 : Int64) (x2 : Int64) (x4 : Int32) (σ : zS) : ∀ (r : Int64) (σ' : zS), f_X10_partOf x0 x2 x4 σ = some (r, σ') → zCN X WC d M_X10_partOf [.long x0, .long x2, .int x4] σ (zeL r, σ') := by
  refine z_entry [.long x0, .long x2, .int x4] (by decide +kernel) T_X10_partOf (Nat.le_of_ble_eq_true rfl) ?_
  show zK X WC (zrm d) M_X10_partOf (zZ X WC zeL) 0 [some (.long x0), none, some (.long x2), none, some (.int x4), none, none, none, none, none, none, none] [] σ (f_X10_partOf x0 x2 x4 σ)
  unfold f_X10_partOf
  refine z_lload2 0 1 rfl rfl ?_
  refine z_lstore5 1 3 rfl rfl rfl (fun v8 => ?_)
  refine z_lload0 2 4 rfl rfl ?_
  refine z_lstore7 3 6 rfl rfl rfl (fun v9 => ?_)
  refine z_iconst 4 7 rfl rfl ci_0 ?_
  refine z_istore9 5 9 rfl rfl rfl (fun v10 => ?_)
  exact t_X10_partOf_9 X d  FU x0 x2 x4 v8 v9 v10 σ
def f_X10_odds (a0 : Nat) (x1 : Int32) (x2 : Int32) (σ : zS) : Option (Int64 × zS) := zck (WC.2 a0 = (10, 0)) (zbd (f_X10_isMatter a0 x1 σ) (fun r1 σ2 => zbr (r1 = 0) (zbd (f_X10_refuse a0 (1 : Int32) σ2) (fun r3 σ4 => some ((r3.toInt64), σ4))) (zbd (f_X10_grant a0 (0 : Int32) σ2) (fun r5 σ6 => zbd (f_X10_chance a0 x1 (-1 : Int32) σ6) (fun r7 σ8 => zbd (f_X10_countRead a0 x1 σ8) (fun r9 σ10 => zbd (f_X10_raised (100 : Int64) r9 σ10) (fun r11 σ12 => zbd (f_X10_partOf r7 r11 x2 σ12) (fun r13 σ14 => some (r13, σ14)))))))))
theorem c_X10_odds (X : zX) (d : Nat) (hd : 4 ≤ d) (a0 : Nat) (x1 : Int32) (x2 : Int32) (σ : zS) : ∀ (r : Int64) (σ' : zS), f_X10_odds a0 x1 x2 σ = some (r, σ') → zCN X WC d M_X10_odds [.ref a0, .int x1, .int x2] σ (zeL r, σ') := by
  obtain ⟨d, rfl⟩ : ∃ e, d = e + 1 := ⟨d - 1, by omega⟩
  refine z_entry [.ref a0, .int x1, .int x2] (by decide +kernel) T_X10_odds (Nat.le_of_ble_eq_true rfl) ?_
  show zK X WC (zrm (d + 1)) M_X10_odds (zZ X WC zeL) 0 [some (.ref a0), some (.int x1), some (.int x2)] [] σ (f_X10_odds a0 x1 x2 σ)
  unfold f_X10_odds
  refine z_ck (fun h0 => ?_)
  refine z_aload0 0 1 rfl rfl ?_
  refine z_iload1 1 2 rfl rfl ?_
  refine z_cV1I 2 5 rfl rfl zl_X10_188 F_X10_isMatter (zR_rm (by omega)) (c_X10_isMatter X d a0 x1 σ) ⟨by decide, rfl, rfl⟩ h0 rfl (Nat.le_of_ble_eq_true rfl) (fun r1 σ2 => ?_)
  refine z_if_ne 3 8 15 rfl rfl (by decide) ?_ ?_
  · refine z_aload0 4 9 rfl rfl ?_
    refine z_iconst 5 10 rfl rfl ci_1 ?_
    refine z_cV1I 6 13 rfl rfl zl_X10_82 F_X10_refuse (zR_rm (by omega)) (c_X10_refuse X d a0 (1 : Int32) σ2) ⟨by decide, rfl, rfl⟩ h0 rfl (Nat.le_of_ble_eq_true rfl) (fun r3 σ4 => ?_)
    refine z_i2l 7 14 rfl rfl ?_
    exact z_lret 8 rfl rfl
  · refine z_aload0 9 16 rfl rfl ?_
    refine z_iconst 10 17 rfl rfl ci_0 ?_
    refine z_cV1I 11 20 rfl rfl zl_X10_121 F_X10_grant (zR_rm (by omega)) (c_X10_grant X d a0 (0 : Int32) σ2) ⟨by decide, rfl, rfl⟩ h0 rfl (Nat.le_of_ble_eq_true rfl) (fun r5 σ6 => ?_)
    refine z_pop 12 21 rfl rfl rfl ?_
    refine z_aload0 13 22 rfl rfl ?_
    refine z_iload1 14 23 rfl rfl ?_
    refine z_iconst 15 24 rfl rfl ci_m1 ?_
    refine z_cV2L 16 27 rfl rfl zl_X10_308 F_X10_chance (zR_rm (by omega)) (c_X10_chance X d (by omega) a0 x1 (-1 : Int32) σ6) ⟨by decide, rfl, rfl⟩ h0 rfl (Nat.le_of_ble_eq_true rfl) (fun r7 σ8 => ?_)
    refine z_ldc2 17 30 rfl rfl (v := (100 : Int64)) (zTT_in (i := 1156) (by decide +kernel) rfl) ?_
    refine z_aload0 18 31 rfl rfl ?_
    refine z_iload1 19 32 rfl rfl ?_
    refine z_cV1I 20 35 rfl rfl zl_X10_314 F_X10_countRead (zR_rm (by omega)) (c_X10_countRead X d (by omega) a0 x1 σ8) ⟨by decide, rfl, rfl⟩ h0 rfl (Nat.le_of_ble_eq_true rfl) (fun r9 σ10 => ?_)
    refine z_cS2L 21 38 rfl rfl zl_X10_317 F_X10_raised (zR_rm (by omega)) (c_X10_raised X d (100 : Int64) r9 σ10) rfl (Nat.le_of_ble_eq_true rfl) (fun r11 σ12 => ?_)
    refine z_iload2 22 39 rfl rfl ?_
    refine z_cS3L 23 42 rfl rfl zl_X10_321 F_X10_partOf (zR_rm (by omega)) (c_X10_partOf X d r7 r11 x2 σ12) rfl (Nat.le_of_ble_eq_true rfl) (fun r13 σ14 => ?_)
    exact z_lret 24 rfl rfl
def f_X10_standOdds (a0 : Nat) (x1 : Int32) (x2 : Int32) (σ : zS) : Option (Int64 × zS) := zck (WC.2 a0 = (10, 0)) (zbd (f_X10_isLine a0 x1 σ) (fun r1 σ2 => zbr (r1 = 0) (zbd (f_X10_refuse a0 (1 : Int32) σ2) (fun r3 σ4 => some ((r3.toInt64), σ4))) (zbd (f_X10_grant a0 (0 : Int32) σ2) (fun r5 σ6 => zck (WC.2 (σ6.2 a0 3) = (6, 0)) (zck (zok 100 (WC.2 (σ6.2 (σ6.2 a0 3) 2)) x1) (zlt (σ6.1 (σ6.2 (σ6.2 a0 3) 2) x1.toNatClampNeg) (fun v8 => zbd (f_X10_chance a0 v8 x1 σ6) (fun r9 σ10 => zbd (f_X10_countRead a0 v8 σ10) (fun r11 σ12 => zbd (f_X10_raised (100 : Int64) r11 σ12) (fun r13 σ14 => zbd (f_X10_partOf r9 r13 x2 σ14) (fun r15 σ16 => some (r15, σ16))))))))))))
theorem c_X10_standOdds (X : zX) (d : Nat) (hd : 4 ≤ d) (a0 : Nat) (x1 : Int32) (x2 : Int32) (σ : zS) : ∀ (r : Int64) (σ' : zS), f_X10_standOdds a0 x1 x2 σ = some (r, σ') → zCN X WC d M_X10_standOdds [.ref a0, .int x1, .int x2] σ (zeL r, σ') := by
  obtain ⟨d, rfl⟩ : ∃ e, d = e + 1 := ⟨d - 1, by omega⟩
  refine z_entry [.ref a0, .int x1, .int x2] (by decide +kernel) T_X10_standOdds (Nat.le_of_ble_eq_true rfl) ?_
  show zK X WC (zrm (d + 1)) M_X10_standOdds (zZ X WC zeL) 0 [some (.ref a0), some (.int x1), some (.int x2), none] [] σ (f_X10_standOdds a0 x1 x2 σ)
  unfold f_X10_standOdds
  refine z_ck (fun h0 => ?_)
  refine z_aload0 0 1 rfl rfl ?_
  refine z_iload1 1 2 rfl rfl ?_
  refine z_cV1I 2 5 rfl rfl zl_X10_162 F_X10_isLine (zR_rm (by omega)) (c_X10_isLine X d a0 x1 σ) ⟨by decide, rfl, rfl⟩ h0 rfl (Nat.le_of_ble_eq_true rfl) (fun r1 σ2 => ?_)
  refine z_if_ne 3 8 15 rfl rfl (by decide) ?_ ?_
  · refine z_aload0 4 9 rfl rfl ?_
    refine z_iconst 5 10 rfl rfl ci_1 ?_
    refine z_cV1I 6 13 rfl rfl zl_X10_82 F_X10_refuse (zR_rm (by omega)) (c_X10_refuse X d a0 (1 : Int32) σ2) ⟨by decide, rfl, rfl⟩ h0 rfl (Nat.le_of_ble_eq_true rfl) (fun r3 σ4 => ?_)
    refine z_i2l 7 14 rfl rfl ?_
    exact z_lret 8 rfl rfl
  · refine z_aload0 9 16 rfl rfl ?_
    refine z_iconst 10 17 rfl rfl ci_0 ?_
    refine z_cV1I 11 20 rfl rfl zl_X10_121 F_X10_grant (zR_rm (by omega)) (c_X10_grant X d a0 (0 : Int32) σ2) ⟨by decide, rfl, rfl⟩ h0 rfl (Nat.le_of_ble_eq_true rfl) (fun r5 σ6 => ?_)
    refine z_pop 12 21 rfl rfl rfl ?_
    refine z_aload0 13 22 rfl rfl ?_
    refine z_getR 14 25 3 rfl rfl zf_X10_29 rfl h0 ?_
    refine z_ck (fun h7 => ?_)
    refine z_getR 15 28 2 rfl rfl zf_X10_171 rfl h7 ?_
    refine z_iload1 16 29 rfl rfl ?_
    refine z_iald 17 30 rfl rfl ?_
    refine z_istore3 18 31 rfl rfl rfl (fun v8 => ?_)
    refine z_aload0 19 32 rfl rfl ?_
    refine z_iload3 20 33 rfl rfl ?_
    refine z_iload1 21 34 rfl rfl ?_
    refine z_cV2L 22 37 rfl rfl zl_X10_308 F_X10_chance (zR_rm (by omega)) (c_X10_chance X d (by omega) a0 v8 x1 σ6) ⟨by decide, rfl, rfl⟩ h0 rfl (Nat.le_of_ble_eq_true rfl) (fun r9 σ10 => ?_)
    refine z_ldc2 23 40 rfl rfl (v := (100 : Int64)) (zTT_in (i := 1156) (by decide +kernel) rfl) ?_
    refine z_aload0 24 41 rfl rfl ?_
    refine z_iload3 25 42 rfl rfl ?_
    refine z_cV1I 26 45 rfl rfl zl_X10_314 F_X10_countRead (zR_rm (by omega)) (c_X10_countRead X d (by omega) a0 v8 σ10) ⟨by decide, rfl, rfl⟩ h0 rfl (Nat.le_of_ble_eq_true rfl) (fun r11 σ12 => ?_)
    refine z_cS2L 27 48 rfl rfl zl_X10_317 F_X10_raised (zR_rm (by omega)) (c_X10_raised X d (100 : Int64) r11 σ12) rfl (Nat.le_of_ble_eq_true rfl) (fun r13 σ14 => ?_)
    refine z_iload2 28 49 rfl rfl ?_
    refine z_cS3L 29 52 rfl rfl zl_X10_321 F_X10_partOf (zR_rm (by omega)) (c_X10_partOf X d r9 r13 x2 σ14) rfl (Nat.le_of_ble_eq_true rfl) (fun r15 σ16 => ?_)
    exact z_lret 30 rfl rfl
def f_X10_mean_36 (a0 : Nat) : Nat → Int32 → Int32 → Int64 → Int32 → zS → Option (Int64 × zS)
  | 0, _, _, _, _, _ => none
  | n + 1, x1, x2, x3, x5, σ => zck (WC.2 (σ.2 a0 8) = (3, 0)) (zbr ((σ.1 (σ.2 a0 8) 13) ≤ x5) (zbd (f_X10_raised (100 : Int64) x2 σ) (fun r2 σ3 => zbd (f_X10_partOf x3 r2 x1 σ3) (fun r4 σ5 => some (r4, σ5)))) (zbd (f_X10_chance a0 x5 (-1 : Int32) σ) (fun r6 σ7 => zbd (f_X10_countRead a0 x5 σ7) (fun r8 σ9 => zbd (f_X10_raised (100 : Int64) (x2 - r8) σ9) (fun r10 σ11 => zlt (x3 + (r6 * r10)) (fun v12 => zlt (x5 + (1 : Int32)) (fun v13 => f_X10_mean_36 a0 n x1 x2 v12 v13 σ11)))))))
theorem t_X10_mean_36 (X : zX) (d : Nat) (hd : 4 ≤ d + 1) (a0 : Nat) (h0 : WC.2 a0 = (10, 0)) : ∀ (n : Nat) (x1 : Int32) (x2 : Int32) (x3 : Int64) (x5 : Int32) (σ : zS), zK X WC (zrm (d + 1)) M_X10_mean (zZ X WC zeL) 36 [some (.ref a0), some (.int x1), some (.int x2), some (.long x3), none, some (.int x5)] [] σ (f_X10_mean_36 a0 n x1 x2 x3 x5 σ) := by
  intro n
  induction n with
  | zero => intro x1 x2 x3 x5 σ; exact z_none
  | succ n ih =>
    intro x1 x2 x3 x5 σ
    rw [f_X10_mean_36]
    refine z_iload5 21 38 rfl rfl ?_
    refine z_aload0 22 39 rfl rfl ?_
    refine z_getR 23 42 8 rfl rfl zf_X10_61 rfl h0 ?_
    refine z_ck (fun h1 => ?_)
    refine z_getI 24 45 13 rfl rfl zf_X10_202 rfl h1 ?_
    refine z_icmp_ge 25 48 79 rfl rfl (by decide) ?_ ?_
    · refine z_lload3 43 80 rfl rfl ?_
      refine z_ldc2 44 83 rfl rfl (v := (100 : Int64)) (zTT_in (i := 1156) (by decide +kernel) rfl) ?_
      refine z_iload2 45 84 rfl rfl ?_
      refine z_cS2L 46 87 rfl rfl zl_X10_317 F_X10_raised (zR_rm (by omega)) (c_X10_raised X d (100 : Int64) x2 σ) rfl (Nat.le_of_ble_eq_true rfl) (fun r2 σ3 => ?_)
      refine z_iload1 47 88 rfl rfl ?_
      refine z_cS3L 48 91 rfl rfl zl_X10_321 F_X10_partOf (zR_rm (by omega)) (c_X10_partOf X d x3 r2 x1 σ3) rfl (Nat.le_of_ble_eq_true rfl) (fun r4 σ5 => ?_)
      exact z_lret 49 rfl rfl
    · refine z_lload3 26 49 rfl rfl ?_
      refine z_aload0 27 50 rfl rfl ?_
      refine z_iload5 28 52 rfl rfl ?_
      refine z_iconst 29 53 rfl rfl ci_m1 ?_
      refine z_cV2L 30 56 rfl rfl zl_X10_308 F_X10_chance (zR_rm (by omega)) (c_X10_chance X d (by omega) a0 x5 (-1 : Int32) σ) ⟨by decide, rfl, rfl⟩ h0 rfl (Nat.le_of_ble_eq_true rfl) (fun r6 σ7 => ?_)
      refine z_ldc2 31 59 rfl rfl (v := (100 : Int64)) (zTT_in (i := 1156) (by decide +kernel) rfl) ?_
      refine z_iload2 32 60 rfl rfl ?_
      refine z_aload0 33 61 rfl rfl ?_
      refine z_iload5 34 63 rfl rfl ?_
      refine z_cV1I 35 66 rfl rfl zl_X10_314 F_X10_countRead (zR_rm (by omega)) (c_X10_countRead X d (by omega) a0 x5 σ7) ⟨by decide, rfl, rfl⟩ h0 rfl (Nat.le_of_ble_eq_true rfl) (fun r8 σ9 => ?_)
      refine z_isub 36 67 rfl rfl ?_
      refine z_cS2L 37 70 rfl rfl zl_X10_317 F_X10_raised (zR_rm (by omega)) (c_X10_raised X d (100 : Int64) (x2 - r8) σ9) rfl (Nat.le_of_ble_eq_true rfl) (fun r10 σ11 => ?_)
      refine z_lmul 38 71 rfl rfl ?_
      refine z_ladd 39 72 rfl rfl ?_
      refine z_lstore3 40 73 rfl rfl rfl (fun v12 => ?_)
      refine z_iinc5 41 76 rfl rfl ci_1 rfl (fun v13 => ?_)
      refine z_goto 42 36 rfl (by decide) ?_
      exact ih x1 x2 v12 v13 σ11
def f_X10_mean (a0 : Nat) (x1 : Int32) (σ : zS) : Option (Int64 × zS) := zck (WC.2 a0 = (10, 0)) (zbd (f_X10_noLetter a0 σ) (fun r14 σ15 => zbr (r14 = 0) (zbd (f_X10_grant a0 (0 : Int32) σ15) (fun r16 σ17 => zck (WC.2 (σ17.2 a0 3) = (6, 0)) (zbd (f_X6_read (σ17.2 a0 3) σ17) (fun r19 σ20 => zbd (f_J6_bitCount WC r19 σ20) (fun r21 σ22 => zlt r21 (fun v23 => zlt (0 : Int64) (fun v24 => zlt (0 : Int32) (fun v25 => f_X10_mean_36 a0 FU x1 v23 v24 v25 σ22)))))))) (zbd (f_X10_refuse a0 (1 : Int32) σ15) (fun r26 σ27 => some ((r26.toInt64), σ27)))))
theorem c_X10_mean (X : zX) (d : Nat) (hd : 4 ≤ d) (a0 : Nat) (x1 : Int32) (σ : zS) : ∀ (r : Int64) (σ' : zS), f_X10_mean a0 x1 σ = some (r, σ') → zCN X WC d M_X10_mean [.ref a0, .int x1] σ (zeL r, σ') := by
  obtain ⟨d, rfl⟩ : ∃ e, d = e + 1 := ⟨d - 1, by omega⟩
  refine z_entry [.ref a0, .int x1] (by decide +kernel) T_X10_mean (Nat.le_of_ble_eq_true rfl) ?_
  show zK X WC (zrm (d + 1)) M_X10_mean (zZ X WC zeL) 0 [some (.ref a0), some (.int x1), none, none, none, none] [] σ (f_X10_mean a0 x1 σ)
  unfold f_X10_mean
  refine z_ck (fun h0 => ?_)
  refine z_aload0 0 1 rfl rfl ?_
  refine z_cV0I 1 4 rfl rfl zl_X10_198 F_X10_noLetter (zR_rm (by omega)) (c_X10_noLetter X d a0 σ) ⟨by decide, rfl, rfl⟩ h0 rfl (Nat.le_of_ble_eq_true rfl) (fun r14 σ15 => ?_)
  refine z_if_eq 2 7 14 rfl rfl (by decide) ?_ ?_
  · refine z_aload0 8 15 rfl rfl ?_
    refine z_iconst 9 16 rfl rfl ci_0 ?_
    refine z_cV1I 10 19 rfl rfl zl_X10_121 F_X10_grant (zR_rm (by omega)) (c_X10_grant X d a0 (0 : Int32) σ15) ⟨by decide, rfl, rfl⟩ h0 rfl (Nat.le_of_ble_eq_true rfl) (fun r16 σ17 => ?_)
    refine z_pop 11 20 rfl rfl rfl ?_
    refine z_aload0 12 21 rfl rfl ?_
    refine z_getR 13 24 3 rfl rfl zf_X10_29 rfl h0 ?_
    refine z_ck (fun h18 => ?_)
    refine z_cV0I 14 27 rfl rfl zl_X10_181 F_X6_read (zR_rm (by omega)) (c_X6_read X d (σ17.2 a0 3) σ17) ⟨by decide, rfl, rfl⟩ h18 rfl (Nat.le_of_ble_eq_true rfl) (fun r19 σ20 => ?_)
    refine z_cS1I 15 30 rfl rfl zl_X10_208 F_J6_bitCount (zR_rm (by omega)) (c_J6_bitCount X WC d r19 σ20) rfl (Nat.le_of_ble_eq_true rfl) (fun r21 σ22 => ?_)
    refine z_istore2 16 31 rfl rfl rfl (fun v23 => ?_)
    refine z_lconst 17 32 rfl rfl cl_0 ?_
    refine z_lstore3 18 33 rfl rfl rfl (fun v24 => ?_)
    refine z_iconst 19 34 rfl rfl ci_0 ?_
    refine z_istore5 20 36 rfl rfl rfl (fun v25 => ?_)
    exact t_X10_mean_36 X d hd a0 h0  FU x1 v23 v24 v25 σ22
  · refine z_aload0 3 8 rfl rfl ?_
    refine z_iconst 4 9 rfl rfl ci_1 ?_
    refine z_cV1I 5 12 rfl rfl zl_X10_82 F_X10_refuse (zR_rm (by omega)) (c_X10_refuse X d a0 (1 : Int32) σ15) ⟨by decide, rfl, rfl⟩ h0 rfl (Nat.le_of_ble_eq_true rfl) (fun r26 σ27 => ?_)
    refine z_i2l 6 13 rfl rfl ?_
    exact z_lret 7 rfl rfl
def f_X10_isThumbs (x0 : Int32) (x1 : Int32) (σ : zS) : Option (Int32 × zS) := zbr (x0 < 0) (zck (zb (0 : Int32)) (some ((0 : Int32), σ))) (zbr ((65537 : Int32) ≤ x0) (zck (zb (0 : Int32)) (some ((0 : Int32), σ))) (zbr (x1 < 0) (zck (zb (0 : Int32)) (some ((0 : Int32), σ))) (zbr ((60 : Int32) < x1) (zck (zb (0 : Int32)) (some ((0 : Int32), σ))) (zck (zb (1 : Int32)) (some ((1 : Int32), σ))))))
theorem c_X10_isThumbs (X : zX) (d : Nat) (x0 : Int32) (x1 : Int32) (σ : zS) : ∀ (r : Int32) (σ' : zS), f_X10_isThumbs x0 x1 σ = some (r, σ') → zCN X WC d M_X10_isThumbs [.int x0, .int x1] σ (zeI r, σ') := by
  refine z_entry [.int x0, .int x1] (by decide +kernel) T_X10_isThumbs (Nat.le_of_ble_eq_true rfl) ?_
  show zK X WC (zrm d) M_X10_isThumbs (zZ X WC zeI) 0 [some (.int x0), some (.int x1)] [] σ (f_X10_isThumbs x0 x1 σ)
  unfold f_X10_isThumbs
  refine z_iload0 0 1 rfl rfl ?_
  refine z_if_lt 1 4 25 rfl rfl (by decide) ?_ ?_
  · refine z_iconst 12 26 rfl rfl ci_0 ?_
    exact z_zret 13 rfl rfl
  · refine z_iload0 2 5 rfl rfl ?_
    refine z_ldcwI 3 8 rfl rfl (v := (65537 : Int32)) (zTT_in (i := 1180) (by decide +kernel) rfl) ?_
    refine z_icmp_ge 4 11 25 rfl rfl (by decide) ?_ ?_
    · refine z_iconst 12 26 rfl rfl ci_0 ?_
      exact z_zret 13 rfl rfl
    · refine z_iload1 5 12 rfl rfl ?_
      refine z_if_lt 6 15 25 rfl rfl (by decide) ?_ ?_
      · refine z_iconst 12 26 rfl rfl ci_0 ?_
        exact z_zret 13 rfl rfl
      · refine z_iload1 7 16 rfl rfl ?_
        refine z_bipush 8 18 rfl rfl cb_60 ?_
        refine z_icmp_gt 9 21 25 rfl rfl (by decide) ?_ ?_
        · refine z_iconst 12 26 rfl rfl ci_0 ?_
          exact z_zret 13 rfl rfl
        · refine z_iconst 10 22 rfl rfl ci_1 ?_
          refine z_goto 11 26 rfl (by decide) ?_
          exact z_zret 13 rfl rfl
def f_X10_smudge_78 (a0 : Nat) (H8 : Int32 → Int32 → Int32 → Int32 → zS → Option (Int32 × zS)) (x2 : Int32) (x3 : Int32) (x4 : Int32) (x5 : Int32) (σ : zS) : Option (Int32 × zS) := zlt (x5 + (1 : Int32)) (fun v1 => H8 x2 x3 x4 v1 σ)
theorem t_X10_smudge_78 (X : zX) (d : Nat) (a0 : Nat) (h0 : WC.2 a0 = (10, 0)) (H8 : Int32 → Int32 → Int32 → Int32 → zS → Option (Int32 × zS)) (hH8 : ∀ (x2 : Int32) (x3 : Int32) (x4 : Int32) (x5 : Int32) (σ : zS), zK X WC (zrm d) M_X10_smudge (zZ X WC zeI) 8 [some (.ref a0), none, some (.int x2), some (.int x3), some (.int x4), some (.int x5)] [] σ (H8 x2 x3 x4 x5 σ)) (x2 : Int32) (x3 : Int32) (x4 : Int32) (x5 : Int32) (σ : zS) : zK X WC (zrm d) M_X10_smudge (zZ X WC zeI) 78 [some (.ref a0), none, some (.int x2), some (.int x3), some (.int x4), some (.int x5)] [] σ (f_X10_smudge_78 a0 H8 x2 x3 x4 x5 σ) := by
  unfold f_X10_smudge_78
  refine z_iinc5 46 81 rfl rfl ci_1 rfl (fun v1 => ?_)
  refine z_goto 47 8 rfl (by decide) ?_
  exact hH8 x2 x3 x4 v1 σ
def f_X10_smudge_8 (a0 : Nat) : Nat → Int32 → Int32 → Int32 → Int32 → zS → Option (Int32 × zS)
  | 0, _, _, _, _, _ => none
  | n + 1, x2, x3, x4, x5, σ => zbr (x2 ≤ x5) (some (x4, σ)) (zck (¬ (65537 : Int32) = 0) (zlt ((((75 : Int32) * x3) + (74 : Int32)) - (((75 : Int32) * x3) + (74 : Int32)) / (65537 : Int32) * (65537 : Int32)) (fun v3 => zck (¬ (100 : Int32) = 0) (zck (WC.2 (σ.2 a0 8) = (3, 0)) (zbr ((σ.1 (σ.2 a0 8) 9) ≤ (v3 - v3 / (100 : Int32) * (100 : Int32))) (f_X10_smudge_78 a0 (f_X10_smudge_8 a0 n) x2 v3 x4 x5 σ) (zck (WC.2 (σ.2 a0 3) = (6, 0)) (zbr ((σ.1 (σ.2 a0 3) 5) ≤ 0) (f_X10_smudge_78 a0 (f_X10_smudge_8 a0 n) x2 v3 x4 x5 σ) (zck (¬ (65537 : Int32) = 0) (zlt ((((75 : Int32) * v3) + (74 : Int32)) - (((75 : Int32) * v3) + (74 : Int32)) / (65537 : Int32) * (65537 : Int32)) (fun v8 => zck (¬ (σ.1 (σ.2 a0 3) 5) = 0) (zlt (x4 ||| ((1 : Int32) <<< ((v8 - v8 / (σ.1 (σ.2 a0 3) 5) * (σ.1 (σ.2 a0 3) 5)) &&& 31))) (fun v10 => f_X10_smudge_78 a0 (f_X10_smudge_8 a0 n) x2 v8 v10 x5 σ))))))))))))
theorem t_X10_smudge_8 (X : zX) (d : Nat) (a0 : Nat) (h0 : WC.2 a0 = (10, 0)) : ∀ (n : Nat) (x2 : Int32) (x3 : Int32) (x4 : Int32) (x5 : Int32) (σ : zS), zK X WC (zrm d) M_X10_smudge (zZ X WC zeI) 8 [some (.ref a0), none, some (.int x2), some (.int x3), some (.int x4), some (.int x5)] [] σ (f_X10_smudge_8 a0 n x2 x3 x4 x5 σ) := by
  intro n
  induction n with
  | zero => intro x2 x3 x4 x5 σ; exact z_none
  | succ n ih =>
    intro x2 x3 x4 x5 σ
    rw [f_X10_smudge_8]
    refine z_iload5 6 10 rfl rfl ?_
    refine z_iload2 7 11 rfl rfl ?_
    refine z_icmp_ge 8 14 84 rfl rfl (by decide) ?_ ?_
    · refine z_iload4 48 86 rfl rfl ?_
      exact z_iret 49 rfl rfl
    · refine z_bipush 9 16 rfl rfl cb_75 ?_
      refine z_iload3 10 17 rfl rfl ?_
      refine z_imul 11 18 rfl rfl ?_
      refine z_bipush 12 20 rfl rfl cb_74 ?_
      refine z_iadd 13 21 rfl rfl ?_
      refine z_ldcwI 14 24 rfl rfl (v := (65537 : Int32)) (zTT_in (i := 1180) (by decide +kernel) rfl) ?_
      refine z_ck (fun h2 => ?_)
      refine z_irem 15 25 rfl rfl h2 ?_
      refine z_istore3 16 26 rfl rfl rfl (fun v3 => ?_)
      refine z_iload3 17 27 rfl rfl ?_
      refine z_bipush 18 29 rfl rfl cb_100 ?_
      refine z_ck (fun h4 => ?_)
      refine z_irem 19 30 rfl rfl h4 ?_
      refine z_aload0 20 31 rfl rfl ?_
      refine z_getR 21 34 8 rfl rfl zf_X10_61 rfl h0 ?_
      refine z_ck (fun h5 => ?_)
      refine z_getI 22 37 9 rfl rfl zf_X10_349 rfl h5 ?_
      refine z_icmp_ge 23 40 78 rfl rfl (by decide) ?_ ?_
      · exact t_X10_smudge_78 X d a0 h0 (f_X10_smudge_8 a0 n) ih x2 v3 x4 x5 σ
      · refine z_aload0 24 41 rfl rfl ?_
        refine z_getR 25 44 3 rfl rfl zf_X10_29 rfl h0 ?_
        refine z_ck (fun h6 => ?_)
        refine z_getI 26 47 5 rfl rfl zf_X10_216 rfl h6 ?_
        refine z_if_le 27 50 78 rfl rfl (by decide) ?_ ?_
        · exact t_X10_smudge_78 X d a0 h0 (f_X10_smudge_8 a0 n) ih x2 v3 x4 x5 σ
        · refine z_bipush 28 52 rfl rfl cb_75 ?_
          refine z_iload3 29 53 rfl rfl ?_
          refine z_imul 30 54 rfl rfl ?_
          refine z_bipush 31 56 rfl rfl cb_74 ?_
          refine z_iadd 32 57 rfl rfl ?_
          refine z_ldcwI 33 60 rfl rfl (v := (65537 : Int32)) (zTT_in (i := 1180) (by decide +kernel) rfl) ?_
          refine z_ck (fun h7 => ?_)
          refine z_irem 34 61 rfl rfl h7 ?_
          refine z_istore3 35 62 rfl rfl rfl (fun v8 => ?_)
          refine z_iload4 36 64 rfl rfl ?_
          refine z_iconst 37 65 rfl rfl ci_1 ?_
          refine z_iload3 38 66 rfl rfl ?_
          refine z_aload0 39 67 rfl rfl ?_
          refine z_getR 40 70 3 rfl rfl zf_X10_29 rfl h0 ?_
          refine z_getI 41 73 5 rfl rfl zf_X10_216 rfl h6 ?_
          refine z_ck (fun h9 => ?_)
          refine z_irem 42 74 rfl rfl h9 ?_
          refine z_ishl 43 75 rfl rfl ?_
          refine z_ior 44 76 rfl rfl ?_
          refine z_istore4 45 78 rfl rfl rfl (fun v10 => ?_)
          exact t_X10_smudge_78 X d a0 h0 (f_X10_smudge_8 a0 n) ih x2 v8 v10 x5 σ
def f_X10_smudge (a0 : Nat) (x1 : Int32) (x2 : Int32) (σ : zS) : Option (Int32 × zS) := zck (WC.2 a0 = (10, 0)) (zlt x1 (fun v11 => zlt (0 : Int32) (fun v12 => zlt (0 : Int32) (fun v13 => f_X10_smudge_8 a0 FU x2 v11 v12 v13 σ))))
theorem c_X10_smudge (X : zX) (d : Nat) (a0 : Nat) (x1 : Int32) (x2 : Int32) (σ : zS) : ∀ (r : Int32) (σ' : zS), f_X10_smudge a0 x1 x2 σ = some (r, σ') → zCN X WC d M_X10_smudge [.ref a0, .int x1, .int x2] σ (zeI r, σ') := by
  refine z_entry [.ref a0, .int x1, .int x2] (by decide +kernel) T_X10_smudge (Nat.le_of_ble_eq_true rfl) ?_
  show zK X WC (zrm d) M_X10_smudge (zZ X WC zeI) 0 [some (.ref a0), some (.int x1), some (.int x2), none, none, none] [] σ (f_X10_smudge a0 x1 x2 σ)
  unfold f_X10_smudge
  refine z_ck (fun h0 => ?_)
  refine z_iload1 0 1 rfl rfl ?_
  refine z_istore3 1 2 rfl rfl rfl (fun v11 => ?_)
  refine z_iconst 2 3 rfl rfl ci_0 ?_
  refine z_istore4 3 5 rfl rfl rfl (fun v12 => ?_)
  refine z_iconst 4 6 rfl rfl ci_0 ?_
  refine z_istore5 5 8 rfl rfl rfl (fun v13 => ?_)
  exact z_wk (zle_e (zle_n (zle_e (zle_e (zle_e (zle_e zle_0)))))) (t_X10_smudge_8 X d a0 h0  FU x2 v11 v12 v13 σ)
def f_X10_thumbs (a0 : Nat) (x1 : Int32) (x2 : Int32) (x3 : Int32) (σ : zS) : Option (Int32 × zS) := zck (WC.2 a0 = (10, 0)) (zbd (f_X10_isMatter a0 x1 σ) (fun r1 σ2 => zbr (r1 = 0) (zbd (f_X10_refuse a0 (1 : Int32) σ2) (fun r3 σ4 => some (r3, σ4))) (zbd (f_X10_isThumbs x2 x3 σ2) (fun r5 σ6 => zbr (r5 = 0) (zbd (f_X10_refuse a0 (2 : Int32) σ6) (fun r7 σ8 => some (r7, σ8))) (zck (WC.2 (σ6.2 a0 3) = (6, 0)) (zbd (f_X6_read (σ6.2 a0 3) σ6) (fun r10 σ11 => zbd (f_X10_smudge a0 x2 x3 σ11) (fun r12 σ13 => zbd (f_X10_verdict a0 x1 (r10 &&& (r12 ^^^ (-1 : Int32))) σ13) (fun r14 σ15 => zbd (f_X10_grant a0 r14 σ15) (fun r16 σ17 => some (r16, σ17)))))))))))
theorem c_X10_thumbs (X : zX) (d : Nat) (hd : 3 ≤ d) (a0 : Nat) (x1 : Int32) (x2 : Int32) (x3 : Int32) (σ : zS) : ∀ (r : Int32) (σ' : zS), f_X10_thumbs a0 x1 x2 x3 σ = some (r, σ') → zCN X WC d M_X10_thumbs [.ref a0, .int x1, .int x2, .int x3] σ (zeI r, σ') := by
  obtain ⟨d, rfl⟩ : ∃ e, d = e + 1 := ⟨d - 1, by omega⟩
  refine z_entry [.ref a0, .int x1, .int x2, .int x3] (by decide +kernel) T_X10_thumbs (Nat.le_of_ble_eq_true rfl) ?_
  show zK X WC (zrm (d + 1)) M_X10_thumbs (zZ X WC zeI) 0 [some (.ref a0), some (.int x1), some (.int x2), some (.int x3)] [] σ (f_X10_thumbs a0 x1 x2 x3 σ)
  unfold f_X10_thumbs
  refine z_ck (fun h0 => ?_)
  refine z_aload0 0 1 rfl rfl ?_
  refine z_iload1 1 2 rfl rfl ?_
  refine z_cV1I 2 5 rfl rfl zl_X10_188 F_X10_isMatter (zR_rm (by omega)) (c_X10_isMatter X d a0 x1 σ) ⟨by decide, rfl, rfl⟩ h0 rfl (Nat.le_of_ble_eq_true rfl) (fun r1 σ2 => ?_)
  refine z_if_ne 3 8 14 rfl rfl (by decide) ?_ ?_
  · refine z_aload0 4 9 rfl rfl ?_
    refine z_iconst 5 10 rfl rfl ci_1 ?_
    refine z_cV1I 6 13 rfl rfl zl_X10_82 F_X10_refuse (zR_rm (by omega)) (c_X10_refuse X d a0 (1 : Int32) σ2) ⟨by decide, rfl, rfl⟩ h0 rfl (Nat.le_of_ble_eq_true rfl) (fun r3 σ4 => ?_)
    exact z_iret 7 rfl rfl
  · refine z_iload2 8 15 rfl rfl ?_
    refine z_iload3 9 16 rfl rfl ?_
    refine z_cS2I 10 19 rfl rfl zl_X10_325 F_X10_isThumbs (zR_rm (by omega)) (c_X10_isThumbs X d x2 x3 σ2) rfl (Nat.le_of_ble_eq_true rfl) (fun r5 σ6 => ?_)
    refine z_if_ne 11 22 28 rfl rfl (by decide) ?_ ?_
    · refine z_aload0 12 23 rfl rfl ?_
      refine z_iconst 13 24 rfl rfl ci_2 ?_
      refine z_cV1I 14 27 rfl rfl zl_X10_82 F_X10_refuse (zR_rm (by omega)) (c_X10_refuse X d a0 (2 : Int32) σ6) ⟨by decide, rfl, rfl⟩ h0 rfl (Nat.le_of_ble_eq_true rfl) (fun r7 σ8 => ?_)
      exact z_iret 15 rfl rfl
    · refine z_aload0 16 29 rfl rfl ?_
      refine z_aload0 17 30 rfl rfl ?_
      refine z_iload1 18 31 rfl rfl ?_
      refine z_aload0 19 32 rfl rfl ?_
      refine z_getR 20 35 3 rfl rfl zf_X10_29 rfl h0 ?_
      refine z_ck (fun h9 => ?_)
      refine z_cV0I 21 38 rfl rfl zl_X10_181 F_X6_read (zR_rm (by omega)) (c_X6_read X d (σ6.2 a0 3) σ6) ⟨by decide, rfl, rfl⟩ h9 rfl (Nat.le_of_ble_eq_true rfl) (fun r10 σ11 => ?_)
      refine z_aload0 22 39 rfl rfl ?_
      refine z_iload2 23 40 rfl rfl ?_
      refine z_iload3 24 41 rfl rfl ?_
      refine z_cV2I 25 44 rfl rfl zl_X10_329 F_X10_smudge (zR_rm (by omega)) (c_X10_smudge X d a0 x2 x3 σ11) ⟨by decide, rfl, rfl⟩ h0 rfl (Nat.le_of_ble_eq_true rfl) (fun r12 σ13 => ?_)
      refine z_iconst 26 45 rfl rfl ci_m1 ?_
      refine z_ixor 27 46 rfl rfl ?_
      refine z_iand 28 47 rfl rfl ?_
      refine z_cV2I 29 50 rfl rfl zl_X10_191 F_X10_verdict (zR_rm (by omega)) (c_X10_verdict X d (by omega) a0 x1 (r10 &&& (r12 ^^^ (-1 : Int32))) σ13) ⟨by decide, rfl, rfl⟩ h0 rfl (Nat.le_of_ble_eq_true rfl) (fun r14 σ15 => ?_)
      refine z_cV1I 30 53 rfl rfl zl_X10_121 F_X10_grant (zR_rm (by omega)) (c_X10_grant X d a0 r14 σ15) ⟨by decide, rfl, rfl⟩ h0 rfl (Nat.le_of_ble_eq_true rfl) (fun r16 σ17 => ?_)
      exact z_iret 31 rfl rfl
def f_X10_smudged (a0 : Nat) (x1 : Int32) (x2 : Int32) (σ : zS) : Option (Int32 × zS) := zck (WC.2 a0 = (10, 0)) (zbd (f_X10_noLetter a0 σ) (fun r1 σ2 => zbr (r1 = 0) (zbd (f_X10_isThumbs x1 x2 σ2) (fun r3 σ4 => zbr (r3 = 0) (zbd (f_X10_refuse a0 (2 : Int32) σ4) (fun r5 σ6 => some (r5, σ6))) (zbd (f_X10_smudge a0 x1 x2 σ4) (fun r7 σ8 => zbd (f_J6_bitCount WC r7 σ8) (fun r9 σ10 => zbd (f_X10_grant a0 r9 σ10) (fun r11 σ12 => some (r11, σ12))))))) (zbd (f_X10_refuse a0 (1 : Int32) σ2) (fun r13 σ14 => some (r13, σ14)))))
theorem c_X10_smudged (X : zX) (d : Nat) (hd : 1 ≤ d) (a0 : Nat) (x1 : Int32) (x2 : Int32) (σ : zS) : ∀ (r : Int32) (σ' : zS), f_X10_smudged a0 x1 x2 σ = some (r, σ') → zCN X WC d M_X10_smudged [.ref a0, .int x1, .int x2] σ (zeI r, σ') := by
  obtain ⟨d, rfl⟩ : ∃ e, d = e + 1 := ⟨d - 1, by omega⟩
  refine z_entry [.ref a0, .int x1, .int x2] (by decide +kernel) T_X10_smudged (Nat.le_of_ble_eq_true rfl) ?_
  show zK X WC (zrm (d + 1)) M_X10_smudged (zZ X WC zeI) 0 [some (.ref a0), some (.int x1), some (.int x2)] [] σ (f_X10_smudged a0 x1 x2 σ)
  unfold f_X10_smudged
  refine z_ck (fun h0 => ?_)
  refine z_aload0 0 1 rfl rfl ?_
  refine z_cV0I 1 4 rfl rfl zl_X10_198 F_X10_noLetter (zR_rm (by omega)) (c_X10_noLetter X d a0 σ) ⟨by decide, rfl, rfl⟩ h0 rfl (Nat.le_of_ble_eq_true rfl) (fun r1 σ2 => ?_)
  refine z_if_eq 2 7 13 rfl rfl (by decide) ?_ ?_
  · refine z_iload1 7 14 rfl rfl ?_
    refine z_iload2 8 15 rfl rfl ?_
    refine z_cS2I 9 18 rfl rfl zl_X10_325 F_X10_isThumbs (zR_rm (by omega)) (c_X10_isThumbs X d x1 x2 σ2) rfl (Nat.le_of_ble_eq_true rfl) (fun r3 σ4 => ?_)
    refine z_if_ne 10 21 27 rfl rfl (by decide) ?_ ?_
    · refine z_aload0 11 22 rfl rfl ?_
      refine z_iconst 12 23 rfl rfl ci_2 ?_
      refine z_cV1I 13 26 rfl rfl zl_X10_82 F_X10_refuse (zR_rm (by omega)) (c_X10_refuse X d a0 (2 : Int32) σ4) ⟨by decide, rfl, rfl⟩ h0 rfl (Nat.le_of_ble_eq_true rfl) (fun r5 σ6 => ?_)
      exact z_iret 14 rfl rfl
    · refine z_aload0 15 28 rfl rfl ?_
      refine z_aload0 16 29 rfl rfl ?_
      refine z_iload1 17 30 rfl rfl ?_
      refine z_iload2 18 31 rfl rfl ?_
      refine z_cV2I 19 34 rfl rfl zl_X10_329 F_X10_smudge (zR_rm (by omega)) (c_X10_smudge X d a0 x1 x2 σ4) ⟨by decide, rfl, rfl⟩ h0 rfl (Nat.le_of_ble_eq_true rfl) (fun r7 σ8 => ?_)
      refine z_cS1I 20 37 rfl rfl zl_X10_208 F_J6_bitCount (zR_rm (by omega)) (c_J6_bitCount X WC d r7 σ8) rfl (Nat.le_of_ble_eq_true rfl) (fun r9 σ10 => ?_)
      refine z_cV1I 21 40 rfl rfl zl_X10_121 F_X10_grant (zR_rm (by omega)) (c_X10_grant X d a0 r9 σ10) ⟨by decide, rfl, rfl⟩ h0 rfl (Nat.le_of_ble_eq_true rfl) (fun r11 σ12 => ?_)
      exact z_iret 22 rfl rfl
  · refine z_aload0 3 8 rfl rfl ?_
    refine z_iconst 4 9 rfl rfl ci_1 ?_
    refine z_cV1I 5 12 rfl rfl zl_X10_82 F_X10_refuse (zR_rm (by omega)) (c_X10_refuse X d a0 (1 : Int32) σ2) ⟨by decide, rfl, rfl⟩ h0 rfl (Nat.le_of_ble_eq_true rfl) (fun r13 σ14 => ?_)
    exact z_iret 6 rfl rfl
def f_X10_write_115 (a0 : Nat) (x5 : Int32) (s0 : Nat) (s1 : Int32) (s2 : Int32) (s3 : Int32) (s4 : Int32) (σ : zS) : Option (Int32 × zS) := zck (WC.2 s0 = (6, 0)) (zbd (f_X6_add s0 s1 s2 s3 s4 x5 σ) (fun r2 σ3 => zck (WC.2 (σ3.2 a0 3) = (6, 0)) (zck (WC.2 (σ3.2 a0 5) = (7, 0)) (zbd (f_X7_keep (σ3.2 a0 5) (0 : Int32) ((σ3.1 (σ3.2 a0 3) 5) - (1 : Int32)) σ3) (fun r6 σ7 => zck (WC.2 (σ7.2 a0 3) = (6, 0)) (zbd (f_X10_grant a0 ((σ7.1 (σ7.2 a0 3) 5) - (1 : Int32)) σ7) (fun r9 σ10 => some (r9, σ10))))))))
theorem t_X10_write_115 (X : zX) (d : Nat) (hd : 2 ≤ d + 1) (a0 : Nat) (h0 : WC.2 a0 = (10, 0)) (x5 : Int32) (s0 : Nat) (s1 : Int32) (s2 : Int32) (s3 : Int32) (s4 : Int32) (σ : zS) : zK X WC (zrm (d + 1)) M_X10_write (zZ X WC zeI) 115 [some (.ref a0), none, none, none, none, some (.int x5)] [.int s4, .int s3, .int s2, .int s1, .ref s0] σ (f_X10_write_115 a0 x5 s0 s1 s2 s3 s4 σ) := by
  unfold f_X10_write_115
  refine z_iload5 63 117 rfl rfl ?_
  refine z_ck (fun h1 => ?_)
  refine z_cV5V 64 120 rfl rfl zl_X10_332 F_X6_add (zR_rm (by omega)) (c_X6_add X d s0 s1 s2 s3 s4 x5 σ) ⟨by decide, rfl, rfl⟩ h1 rfl (Nat.le_of_ble_eq_true rfl) (fun r2 σ3 => ?_)
  refine z_aload0 65 121 rfl rfl ?_
  refine z_getR 66 124 5 rfl rfl zf_X10_40 rfl h0 ?_
  refine z_iconst 67 125 rfl rfl ci_0 ?_
  refine z_aload0 68 126 rfl rfl ?_
  refine z_getR 69 129 3 rfl rfl zf_X10_29 rfl h0 ?_
  refine z_ck (fun h4 => ?_)
  refine z_getI 70 132 5 rfl rfl zf_X10_216 rfl h4 ?_
  refine z_iconst 71 133 rfl rfl ci_1 ?_
  refine z_isub 72 134 rfl rfl ?_
  refine z_ck (fun h5 => ?_)
  refine z_cV2V 73 137 rfl rfl zl_X10_336 F_X7_keep (zR_rm (by omega)) (c_X7_keep X d (σ3.2 a0 5) (0 : Int32) ((σ3.1 (σ3.2 a0 3) 5) - (1 : Int32)) σ3) ⟨by decide, rfl, rfl⟩ h5 rfl (Nat.le_of_ble_eq_true rfl) (fun r6 σ7 => ?_)
  refine z_aload0 74 138 rfl rfl ?_
  refine z_aload0 75 139 rfl rfl ?_
  refine z_getR 76 142 3 rfl rfl zf_X10_29 rfl h0 ?_
  refine z_ck (fun h8 => ?_)
  refine z_getI 77 145 5 rfl rfl zf_X10_216 rfl h8 ?_
  refine z_iconst 78 146 rfl rfl ci_1 ?_
  refine z_isub 79 147 rfl rfl ?_
  refine z_cV1I 80 150 rfl rfl zl_X10_121 F_X10_grant (zR_rm (by omega)) (c_X10_grant X d a0 ((σ7.1 (σ7.2 a0 3) 5) - (1 : Int32)) σ7) ⟨by decide, rfl, rfl⟩ h0 rfl (Nat.le_of_ble_eq_true rfl) (fun r9 σ10 => ?_)
  exact z_iret 81 rfl rfl
def f_X10_write_92 (a0 : Nat)  (σ : zS) : Option (Int32 × zS) := zbd (f_X10_refuse a0 (3 : Int32) σ) (fun r11 σ12 => some (r11, σ12))
theorem t_X10_write_92 (X : zX) (d : Nat) (hd : 2 ≤ d + 1) (a0 : Nat) (h0 : WC.2 a0 = (10, 0))  (σ : zS) : zK X WC (zrm (d + 1)) M_X10_write (zZ X WC zeI) 92 [some (.ref a0), none, none, none, none, none] [] σ (f_X10_write_92 a0 σ) := by
  unfold f_X10_write_92
  refine z_aload0 49 93 rfl rfl ?_
  refine z_iconst 50 94 rfl rfl ci_3 ?_
  refine z_cV1I 51 97 rfl rfl zl_X10_82 F_X10_refuse (zR_rm (by omega)) (c_X10_refuse X d a0 (3 : Int32) σ) ⟨by decide, rfl, rfl⟩ h0 rfl (Nat.le_of_ble_eq_true rfl) (fun r11 σ12 => ?_)
  exact z_iret 52 rfl rfl
def f_X10_write_43 (a0 : Nat)  (σ : zS) : Option (Int32 × zS) := zbd (f_X10_refuse a0 (2 : Int32) σ) (fun r13 σ14 => some (r13, σ14))
theorem t_X10_write_43 (X : zX) (d : Nat) (hd : 2 ≤ d + 1) (a0 : Nat) (h0 : WC.2 a0 = (10, 0))  (σ : zS) : zK X WC (zrm (d + 1)) M_X10_write (zZ X WC zeI) 43 [some (.ref a0), none, none, none, none, none] [] σ (f_X10_write_43 a0 σ) := by
  unfold f_X10_write_43
  refine z_aload0 22 44 rfl rfl ?_
  refine z_iconst 23 45 rfl rfl ci_2 ?_
  refine z_cV1I 24 48 rfl rfl zl_X10_82 F_X10_refuse (zR_rm (by omega)) (c_X10_refuse X d a0 (2 : Int32) σ) ⟨by decide, rfl, rfl⟩ h0 rfl (Nat.le_of_ble_eq_true rfl) (fun r13 σ14 => ?_)
  exact z_iret 25 rfl rfl
def f_X10_write_24 (a0 : Nat)  (σ : zS) : Option (Int32 × zS) := zbd (f_X10_refuse a0 (1 : Int32) σ) (fun r15 σ16 => some (r15, σ16))
theorem t_X10_write_24 (X : zX) (d : Nat) (hd : 2 ≤ d + 1) (a0 : Nat) (h0 : WC.2 a0 = (10, 0))  (σ : zS) : zK X WC (zrm (d + 1)) M_X10_write (zZ X WC zeI) 24 [some (.ref a0), none, none, none, none, none] [] σ (f_X10_write_24 a0 σ) := by
  unfold f_X10_write_24
  refine z_aload0 12 25 rfl rfl ?_
  refine z_iconst 13 26 rfl rfl ci_1 ?_
  refine z_cV1I 14 29 rfl rfl zl_X10_82 F_X10_refuse (zR_rm (by omega)) (c_X10_refuse X d a0 (1 : Int32) σ) ⟨by decide, rfl, rfl⟩ h0 rfl (Nat.le_of_ble_eq_true rfl) (fun r15 σ16 => ?_)
  exact z_iret 15 rfl rfl
def f_X10_write (a0 : Nat) (x1 : Int32) (x2 : Int32) (x3 : Int32) (x4 : Int32) (x5 : Int32) (σ : zS) : Option (Int32 × zS) := zck (WC.2 a0 = (10, 0)) (zbd (f_X10_isHand a0 x1 σ) (fun r17 σ18 => zbr (r17 = 0) (f_X10_write_24 a0 σ18) (zbd (f_X10_isPlace a0 x2 σ18) (fun r19 σ20 => zbr (r19 = 0) (f_X10_write_24 a0 σ20) (zbd (f_X10_isMatter a0 x3 σ20) (fun r21 σ22 => zbr (r21 = 0) (f_X10_write_24 a0 σ22) (zbr (x5 < (1 : Int32)) (f_X10_write_43 a0 σ22) (zbr (x5 ≤ (9 : Int32)) (zck (WC.2 (σ22.2 a0 3) = (6, 0)) (zbr ((((σ22.1 (σ22.2 a0 3) 7) >>> (x2 &&& 31)) &&& (1 : Int32)) = (1 : Int32)) (zbd (f_X10_refuse a0 (5 : Int32) σ22) (fun r24 σ25 => some (r24, σ25))) (zbd (f_X10_roomAt a0 x2 σ22) (fun r26 σ27 => zbr (r26 < x5) (f_X10_write_92 a0 σ27) (zck (WC.2 (σ27.2 a0 3) = (6, 0)) (zbr ((σ27.1 (σ27.2 a0 3) 5) < (8 : Int32)) (zbr (x4 = 0) (f_X10_write_115 a0 x5 (σ27.2 a0 3) x1 x2 x3 (0 : Int32) σ27) (f_X10_write_115 a0 x5 (σ27.2 a0 3) x1 x2 x3 (1 : Int32) σ27)) (f_X10_write_92 a0 σ27))))))) (f_X10_write_43 a0 σ22)))))))))
theorem c_X10_write (X : zX) (d : Nat) (hd : 2 ≤ d) (a0 : Nat) (x1 : Int32) (x2 : Int32) (x3 : Int32) (x4 : Int32) (x5 : Int32) (σ : zS) : ∀ (r : Int32) (σ' : zS), f_X10_write a0 x1 x2 x3 x4 x5 σ = some (r, σ') → zCN X WC d M_X10_write [.ref a0, .int x1, .int x2, .int x3, .int x4, .int x5] σ (zeI r, σ') := by
  obtain ⟨d, rfl⟩ : ∃ e, d = e + 1 := ⟨d - 1, by omega⟩
  refine z_entry [.ref a0, .int x1, .int x2, .int x3, .int x4, .int x5] (by decide +kernel) T_X10_write (Nat.le_of_ble_eq_true rfl) ?_
  show zK X WC (zrm (d + 1)) M_X10_write (zZ X WC zeI) 0 [some (.ref a0), some (.int x1), some (.int x2), some (.int x3), some (.int x4), some (.int x5)] [] σ (f_X10_write a0 x1 x2 x3 x4 x5 σ)
  unfold f_X10_write
  refine z_ck (fun h0 => ?_)
  refine z_aload0 0 1 rfl rfl ?_
  refine z_iload1 1 2 rfl rfl ?_
  refine z_cV1I 2 5 rfl rfl zl_X10_150 F_X10_isHand (zR_rm (by omega)) (c_X10_isHand X d a0 x1 σ) ⟨by decide, rfl, rfl⟩ h0 rfl (Nat.le_of_ble_eq_true rfl) (fun r17 σ18 => ?_)
  refine z_if_eq 3 8 24 rfl rfl (by decide) ?_ ?_
  · exact z_wk (zle_e (zle_n (zle_n (zle_n (zle_n (zle_n zle_0)))))) (t_X10_write_24 X d hd a0 h0  σ18)
  · refine z_aload0 4 9 rfl rfl ?_
    refine z_iload2 5 10 rfl rfl ?_
    refine z_cV1I 6 13 rfl rfl zl_X10_127 F_X10_isPlace (zR_rm (by omega)) (c_X10_isPlace X d a0 x2 σ18) ⟨by decide, rfl, rfl⟩ h0 rfl (Nat.le_of_ble_eq_true rfl) (fun r19 σ20 => ?_)
    refine z_if_eq 7 16 24 rfl rfl (by decide) ?_ ?_
    · exact z_wk (zle_e (zle_n (zle_n (zle_n (zle_n (zle_n zle_0)))))) (t_X10_write_24 X d hd a0 h0  σ20)
    · refine z_aload0 8 17 rfl rfl ?_
      refine z_iload3 9 18 rfl rfl ?_
      refine z_cV1I 10 21 rfl rfl zl_X10_188 F_X10_isMatter (zR_rm (by omega)) (c_X10_isMatter X d a0 x3 σ20) ⟨by decide, rfl, rfl⟩ h0 rfl (Nat.le_of_ble_eq_true rfl) (fun r21 σ22 => ?_)
      refine z_if_ne 11 24 30 rfl rfl (by decide) ?_ ?_
      · exact z_wk (zle_e (zle_n (zle_n (zle_n (zle_n (zle_n zle_0)))))) (t_X10_write_24 X d hd a0 h0  σ22)
      · refine z_iload5 16 32 rfl rfl ?_
        refine z_iconst 17 33 rfl rfl ci_1 ?_
        refine z_icmp_lt 18 36 43 rfl rfl (by decide) ?_ ?_
        · exact z_wk (zle_e (zle_n (zle_n (zle_n (zle_n (zle_n zle_0)))))) (t_X10_write_43 X d hd a0 h0  σ22)
        · refine z_iload5 19 38 rfl rfl ?_
          refine z_bipush 20 40 rfl rfl cb_9 ?_
          refine z_icmp_le 21 43 49 rfl rfl (by decide) ?_ ?_
          · refine z_aload0 26 50 rfl rfl ?_
            refine z_getR 27 53 3 rfl rfl zf_X10_29 rfl h0 ?_
            refine z_ck (fun h23 => ?_)
            refine z_getI 28 56 7 rfl rfl zf_X10_147 rfl h23 ?_
            refine z_iload2 29 57 rfl rfl ?_
            refine z_ishr 30 58 rfl rfl ?_
            refine z_iconst 31 59 rfl rfl ci_1 ?_
            refine z_iand 32 60 rfl rfl ?_
            refine z_iconst 33 61 rfl rfl ci_1 ?_
            refine z_icmp_ne 34 64 70 rfl rfl (by decide) ?_ ?_
            · refine z_aload0 35 65 rfl rfl ?_
              refine z_iconst 36 66 rfl rfl ci_5 ?_
              refine z_cV1I 37 69 rfl rfl zl_X10_82 F_X10_refuse (zR_rm (by omega)) (c_X10_refuse X d a0 (5 : Int32) σ22) ⟨by decide, rfl, rfl⟩ h0 rfl (Nat.le_of_ble_eq_true rfl) (fun r24 σ25 => ?_)
              exact z_iret 38 rfl rfl
            · refine z_iload5 39 72 rfl rfl ?_
              refine z_aload0 40 73 rfl rfl ?_
              refine z_iload2 41 74 rfl rfl ?_
              refine z_cV1I 42 77 rfl rfl zl_X10_138 F_X10_roomAt (zR_rm (by omega)) (c_X10_roomAt X d (by omega) a0 x2 σ22) ⟨by decide, rfl, rfl⟩ h0 rfl (Nat.le_of_ble_eq_true rfl) (fun r26 σ27 => ?_)
              refine z_icmp_gt 43 80 92 rfl rfl (by decide) ?_ ?_
              · exact z_wk (zle_e (zle_n (zle_n (zle_n (zle_n (zle_n zle_0)))))) (t_X10_write_92 X d hd a0 h0  σ27)
              · refine z_aload0 44 81 rfl rfl ?_
                refine z_getR 45 84 3 rfl rfl zf_X10_29 rfl h0 ?_
                refine z_ck (fun h28 => ?_)
                refine z_getI 46 87 5 rfl rfl zf_X10_216 rfl h28 ?_
                refine z_bipush 47 89 rfl rfl cb_8 ?_
                refine z_icmp_lt 48 92 98 rfl rfl (by decide) ?_ ?_
                · refine z_aload0 53 99 rfl rfl ?_
                  refine z_getR 54 102 3 rfl rfl zf_X10_29 rfl h0 ?_
                  refine z_iload1 55 103 rfl rfl ?_
                  refine z_iload2 56 104 rfl rfl ?_
                  refine z_iload3 57 105 rfl rfl ?_
                  refine z_iload4 58 107 rfl rfl ?_
                  refine z_if_eq 59 110 114 rfl rfl (by decide) ?_ ?_
                  · refine z_iconst 62 115 rfl rfl ci_0 ?_
                    exact z_wk (zle_e (zle_n (zle_n (zle_n (zle_n (zle_e zle_0)))))) (t_X10_write_115 X d hd a0 h0  x5 (σ27.2 a0 3) x1 x2 x3 (0 : Int32) σ27)
                  · refine z_iconst 60 111 rfl rfl ci_1 ?_
                    refine z_goto 61 115 rfl (by decide) ?_
                    exact z_wk (zle_e (zle_n (zle_n (zle_n (zle_n (zle_e zle_0)))))) (t_X10_write_115 X d hd a0 h0  x5 (σ27.2 a0 3) x1 x2 x3 (1 : Int32) σ27)
                · exact z_wk (zle_e (zle_n (zle_n (zle_n (zle_n (zle_n zle_0)))))) (t_X10_write_92 X d hd a0 h0  σ27)
          · exact z_wk (zle_e (zle_n (zle_n (zle_n (zle_n (zle_n zle_0)))))) (t_X10_write_43 X d hd a0 h0  σ22)
def f_X10_strike (a0 : Nat) (x1 : Int32) (σ : zS) : Option (Int32 × zS) := zck (WC.2 a0 = (10, 0)) (zbd (f_X10_isLine a0 x1 σ) (fun r1 σ2 => zbr (r1 = 0) (zbd (f_X10_refuse a0 (1 : Int32) σ2) (fun r3 σ4 => zck (zb (0 : Int32)) (some ((0 : Int32), σ4)))) (zck (WC.2 (σ2.2 a0 3) = (6, 0)) (zbr ((((σ2.1 (σ2.2 a0 3) 6) >>> (x1 &&& 31)) &&& (1 : Int32)) = (1 : Int32)) (zbd (f_X10_refuse a0 (5 : Int32) σ2) (fun r6 σ7 => zck (zb (0 : Int32)) (some ((0 : Int32), σ7)))) (zlt (zpi σ2 (σ2.2 a0 3) 6 ((σ2.1 (σ2.2 a0 3) 6) ||| ((1 : Int32) <<< (x1 &&& 31)))) (fun σ8 => zck (WC.2 (σ8.2 a0 5) = (7, 0)) (zbd (f_X7_keep (σ8.2 a0 5) (1 : Int32) x1 σ8) (fun r10 σ11 => zbd (f_X10_grant a0 (0 : Int32) σ11) (fun r12 σ13 => zck (zb (1 : Int32)) (some ((1 : Int32), σ13)))))))))))
theorem c_X10_strike (X : zX) (d : Nat) (hd : 1 ≤ d) (a0 : Nat) (x1 : Int32) (σ : zS) : ∀ (r : Int32) (σ' : zS), f_X10_strike a0 x1 σ = some (r, σ') → zCN X WC d M_X10_strike [.ref a0, .int x1] σ (zeI r, σ') := by
  obtain ⟨d, rfl⟩ : ∃ e, d = e + 1 := ⟨d - 1, by omega⟩
  refine z_entry [.ref a0, .int x1] (by decide +kernel) T_X10_strike (Nat.le_of_ble_eq_true rfl) ?_
  show zK X WC (zrm (d + 1)) M_X10_strike (zZ X WC zeI) 0 [some (.ref a0), some (.int x1)] [] σ (f_X10_strike a0 x1 σ)
  unfold f_X10_strike
  refine z_ck (fun h0 => ?_)
  refine z_aload0 0 1 rfl rfl ?_
  refine z_iload1 1 2 rfl rfl ?_
  refine z_cV1I 2 5 rfl rfl zl_X10_162 F_X10_isLine (zR_rm (by omega)) (c_X10_isLine X d a0 x1 σ) ⟨by decide, rfl, rfl⟩ h0 rfl (Nat.le_of_ble_eq_true rfl) (fun r1 σ2 => ?_)
  refine z_if_ne 3 8 16 rfl rfl (by decide) ?_ ?_
  · refine z_aload0 4 9 rfl rfl ?_
    refine z_iconst 5 10 rfl rfl ci_1 ?_
    refine z_cV1I 6 13 rfl rfl zl_X10_82 F_X10_refuse (zR_rm (by omega)) (c_X10_refuse X d a0 (1 : Int32) σ2) ⟨by decide, rfl, rfl⟩ h0 rfl (Nat.le_of_ble_eq_true rfl) (fun r3 σ4 => ?_)
    refine z_pop 7 14 rfl rfl rfl ?_
    refine z_iconst 8 15 rfl rfl ci_0 ?_
    exact z_zret 9 rfl rfl
  · refine z_aload0 10 17 rfl rfl ?_
    refine z_getR 11 20 3 rfl rfl zf_X10_29 rfl h0 ?_
    refine z_ck (fun h5 => ?_)
    refine z_getI 12 23 6 rfl rfl zf_X10_178 rfl h5 ?_
    refine z_iload1 13 24 rfl rfl ?_
    refine z_ishr 14 25 rfl rfl ?_
    refine z_iconst 15 26 rfl rfl ci_1 ?_
    refine z_iand 16 27 rfl rfl ?_
    refine z_iconst 17 28 rfl rfl ci_1 ?_
    refine z_icmp_ne 18 31 39 rfl rfl (by decide) ?_ ?_
    · refine z_aload0 19 32 rfl rfl ?_
      refine z_iconst 20 33 rfl rfl ci_5 ?_
      refine z_cV1I 21 36 rfl rfl zl_X10_82 F_X10_refuse (zR_rm (by omega)) (c_X10_refuse X d a0 (5 : Int32) σ2) ⟨by decide, rfl, rfl⟩ h0 rfl (Nat.le_of_ble_eq_true rfl) (fun r6 σ7 => ?_)
      refine z_pop 22 37 rfl rfl rfl ?_
      refine z_iconst 23 38 rfl rfl ci_0 ?_
      exact z_zret 24 rfl rfl
    · refine z_aload0 25 40 rfl rfl ?_
      refine z_getR 26 43 3 rfl rfl zf_X10_29 rfl h0 ?_
      refine z_dup 27 44 rfl rfl rfl ?_
      refine z_getI 28 47 6 rfl rfl zf_X10_178 rfl h5 ?_
      refine z_iconst 29 48 rfl rfl ci_1 ?_
      refine z_iload1 30 49 rfl rfl ?_
      refine z_ishl 31 50 rfl rfl ?_
      refine z_ior 32 51 rfl rfl ?_
      refine z_putI 33 54 6 rfl rfl zf_X10_178 rfl rfl rfl h5 (fun σ8 => ?_)
      refine z_aload0 34 55 rfl rfl ?_
      refine z_getR 35 58 5 rfl rfl zf_X10_40 rfl h0 ?_
      refine z_iconst 36 59 rfl rfl ci_1 ?_
      refine z_iload1 37 60 rfl rfl ?_
      refine z_ck (fun h9 => ?_)
      refine z_cV2V 38 63 rfl rfl zl_X10_336 F_X7_keep (zR_rm (by omega)) (c_X7_keep X d (σ8.2 a0 5) (1 : Int32) x1 σ8) ⟨by decide, rfl, rfl⟩ h9 rfl (Nat.le_of_ble_eq_true rfl) (fun r10 σ11 => ?_)
      refine z_aload0 39 64 rfl rfl ?_
      refine z_iconst 40 65 rfl rfl ci_0 ?_
      refine z_cV1I 41 68 rfl rfl zl_X10_121 F_X10_grant (zR_rm (by omega)) (c_X10_grant X d a0 (0 : Int32) σ11) ⟨by decide, rfl, rfl⟩ h0 rfl (Nat.le_of_ble_eq_true rfl) (fun r12 σ13 => ?_)
      refine z_pop 42 69 rfl rfl rfl ?_
      refine z_iconst 43 70 rfl rfl ci_1 ?_
      exact z_zret 44 rfl rfl
def f_X10_fold (a0 : Nat) (x1 : Int32) (σ : zS) : Option (Int32 × zS) := zck (WC.2 a0 = (10, 0)) (zbd (f_X10_isPlace a0 x1 σ) (fun r1 σ2 => zbr (r1 = 0) (zbd (f_X10_refuse a0 (1 : Int32) σ2) (fun r3 σ4 => some (r3, σ4))) (zck (WC.2 (σ2.2 a0 3) = (6, 0)) (zlt (zpi σ2 (σ2.2 a0 3) 7 ((σ2.1 (σ2.2 a0 3) 7) ^^^ ((1 : Int32) <<< (x1 &&& 31)))) (fun σ6 => zck (WC.2 (σ6.2 a0 5) = (7, 0)) (zbd (f_X7_keep (σ6.2 a0 5) (2 : Int32) x1 σ6) (fun r8 σ9 => zck (WC.2 (σ9.2 a0 3) = (6, 0)) (zbd (f_X10_grant a0 (((σ9.1 (σ9.2 a0 3) 7) >>> (x1 &&& 31)) &&& (1 : Int32)) σ9) (fun r11 σ12 => some (r11, σ12))))))))))
theorem c_X10_fold (X : zX) (d : Nat) (hd : 1 ≤ d) (a0 : Nat) (x1 : Int32) (σ : zS) : ∀ (r : Int32) (σ' : zS), f_X10_fold a0 x1 σ = some (r, σ') → zCN X WC d M_X10_fold [.ref a0, .int x1] σ (zeI r, σ') := by
  obtain ⟨d, rfl⟩ : ∃ e, d = e + 1 := ⟨d - 1, by omega⟩
  refine z_entry [.ref a0, .int x1] (by decide +kernel) T_X10_fold (Nat.le_of_ble_eq_true rfl) ?_
  show zK X WC (zrm (d + 1)) M_X10_fold (zZ X WC zeI) 0 [some (.ref a0), some (.int x1)] [] σ (f_X10_fold a0 x1 σ)
  unfold f_X10_fold
  refine z_ck (fun h0 => ?_)
  refine z_aload0 0 1 rfl rfl ?_
  refine z_iload1 1 2 rfl rfl ?_
  refine z_cV1I 2 5 rfl rfl zl_X10_127 F_X10_isPlace (zR_rm (by omega)) (c_X10_isPlace X d a0 x1 σ) ⟨by decide, rfl, rfl⟩ h0 rfl (Nat.le_of_ble_eq_true rfl) (fun r1 σ2 => ?_)
  refine z_if_ne 3 8 14 rfl rfl (by decide) ?_ ?_
  · refine z_aload0 4 9 rfl rfl ?_
    refine z_iconst 5 10 rfl rfl ci_1 ?_
    refine z_cV1I 6 13 rfl rfl zl_X10_82 F_X10_refuse (zR_rm (by omega)) (c_X10_refuse X d a0 (1 : Int32) σ2) ⟨by decide, rfl, rfl⟩ h0 rfl (Nat.le_of_ble_eq_true rfl) (fun r3 σ4 => ?_)
    exact z_iret 7 rfl rfl
  · refine z_aload0 8 15 rfl rfl ?_
    refine z_getR 9 18 3 rfl rfl zf_X10_29 rfl h0 ?_
    refine z_dup 10 19 rfl rfl rfl ?_
    refine z_ck (fun h5 => ?_)
    refine z_getI 11 22 7 rfl rfl zf_X10_147 rfl h5 ?_
    refine z_iconst 12 23 rfl rfl ci_1 ?_
    refine z_iload1 13 24 rfl rfl ?_
    refine z_ishl 14 25 rfl rfl ?_
    refine z_ixor 15 26 rfl rfl ?_
    refine z_putI 16 29 7 rfl rfl zf_X10_147 rfl rfl rfl h5 (fun σ6 => ?_)
    refine z_aload0 17 30 rfl rfl ?_
    refine z_getR 18 33 5 rfl rfl zf_X10_40 rfl h0 ?_
    refine z_iconst 19 34 rfl rfl ci_2 ?_
    refine z_iload1 20 35 rfl rfl ?_
    refine z_ck (fun h7 => ?_)
    refine z_cV2V 21 38 rfl rfl zl_X10_336 F_X7_keep (zR_rm (by omega)) (c_X7_keep X d (σ6.2 a0 5) (2 : Int32) x1 σ6) ⟨by decide, rfl, rfl⟩ h7 rfl (Nat.le_of_ble_eq_true rfl) (fun r8 σ9 => ?_)
    refine z_aload0 22 39 rfl rfl ?_
    refine z_aload0 23 40 rfl rfl ?_
    refine z_getR 24 43 3 rfl rfl zf_X10_29 rfl h0 ?_
    refine z_ck (fun h10 => ?_)
    refine z_getI 25 46 7 rfl rfl zf_X10_147 rfl h10 ?_
    refine z_iload1 26 47 rfl rfl ?_
    refine z_ishr 27 48 rfl rfl ?_
    refine z_iconst 28 49 rfl rfl ci_1 ?_
    refine z_iand 29 50 rfl rfl ?_
    refine z_cV1I 30 53 rfl rfl zl_X10_121 F_X10_grant (zR_rm (by omega)) (c_X10_grant X d a0 (((σ9.1 (σ9.2 a0 3) 7) >>> (x1 &&& 31)) &&& (1 : Int32)) σ9) ⟨by decide, rfl, rfl⟩ h0 rfl (Nat.le_of_ble_eq_true rfl) (fun r11 σ12 => ?_)
    exact z_iret 31 rfl rfl
def f_X10_undo_119 (a0 : Nat)  (σ : zS) : Option (Int32 × zS) := zbd (f_X10_grant a0 (0 : Int32) σ) (fun r1 σ2 => zck (zb (1 : Int32)) (some ((1 : Int32), σ2)))
theorem t_X10_undo_119 (X : zX) (d : Nat) (hd : 1 ≤ d + 1) (a0 : Nat) (h0 : WC.2 a0 = (10, 0))  (σ : zS) : zK X WC (zrm (d + 1)) M_X10_undo (zZ X WC zeI) 119 [some (.ref a0), none, none] [] σ (f_X10_undo_119 a0 σ) := by
  unfold f_X10_undo_119
  refine z_aload0 64 120 rfl rfl ?_
  refine z_iconst 65 121 rfl rfl ci_0 ?_
  refine z_cV1I 66 124 rfl rfl zl_X10_121 F_X10_grant (zR_rm (by omega)) (c_X10_grant X d a0 (0 : Int32) σ) ⟨by decide, rfl, rfl⟩ h0 rfl (Nat.le_of_ble_eq_true rfl) (fun r1 σ2 => ?_)
  refine z_pop 67 125 rfl rfl rfl ?_
  refine z_iconst 68 126 rfl rfl ci_1 ?_
  exact z_zret 69 rfl rfl
def f_X10_undo (a0 : Nat) (σ : zS) : Option (Int32 × zS) := zck (WC.2 a0 = (10, 0)) (zck (WC.2 (σ.2 a0 5) = (7, 0)) (zbr ((σ.1 (σ.2 a0 5) 2) = 0) (zbd (f_X10_refuse a0 (6 : Int32) σ) (fun r4 σ5 => zck (zb (0 : Int32)) (some ((0 : Int32), σ5)))) (zlt (zpi σ (σ.2 a0 5) 2 ((σ.1 (σ.2 a0 5) 2) - (1 : Int32))) (fun σ6 => zck (WC.2 (σ6.2 a0 5) = (7, 0)) (zck (zok 100 (WC.2 (σ6.2 (σ6.2 a0 5) 0)) (σ6.1 (σ6.2 a0 5) 2)) (zlt (σ6.1 (σ6.2 (σ6.2 a0 5) 0) (σ6.1 (σ6.2 a0 5) 2).toNatClampNeg) (fun v8 => zck (zok 100 (WC.2 (σ6.2 (σ6.2 a0 5) 1)) (σ6.1 (σ6.2 a0 5) 2)) (zlt (σ6.1 (σ6.2 (σ6.2 a0 5) 1) (σ6.1 (σ6.2 a0 5) 2).toNatClampNeg) (fun v9 => zbr (v8 = 0) (zck (WC.2 (σ6.2 a0 3) = (6, 0)) (zlt (zpi σ6 (σ6.2 a0 3) 5 v9) (fun σ11 => f_X10_undo_119 a0 σ11))) (zbr (v8 = (1 : Int32)) (zck (WC.2 (σ6.2 a0 3) = (6, 0)) (zlt (zpi σ6 (σ6.2 a0 3) 6 ((σ6.1 (σ6.2 a0 3) 6) &&& (((1 : Int32) <<< (v9 &&& 31)) ^^^ (-1 : Int32)))) (fun σ13 => f_X10_undo_119 a0 σ13))) (zck (WC.2 (σ6.2 a0 3) = (6, 0)) (zlt (zpi σ6 (σ6.2 a0 3) 7 ((σ6.1 (σ6.2 a0 3) 7) ^^^ ((1 : Int32) <<< (v9 &&& 31)))) (fun σ15 => f_X10_undo_119 a0 σ15)))))))))))))
theorem c_X10_undo (X : zX) (d : Nat) (hd : 1 ≤ d) (a0 : Nat) (σ : zS) : ∀ (r : Int32) (σ' : zS), f_X10_undo a0 σ = some (r, σ') → zCN X WC d M_X10_undo [.ref a0] σ (zeI r, σ') := by
  obtain ⟨d, rfl⟩ : ∃ e, d = e + 1 := ⟨d - 1, by omega⟩
  refine z_entry [.ref a0] (by decide +kernel) T_X10_undo (Nat.le_of_ble_eq_true rfl) ?_
  show zK X WC (zrm (d + 1)) M_X10_undo (zZ X WC zeI) 0 [some (.ref a0), none, none] [] σ (f_X10_undo a0 σ)
  unfold f_X10_undo
  refine z_ck (fun h0 => ?_)
  refine z_aload0 0 1 rfl rfl ?_
  refine z_getR 1 4 5 rfl rfl zf_X10_40 rfl h0 ?_
  refine z_ck (fun h3 => ?_)
  refine z_getI 2 7 2 rfl rfl zf_X10_112 rfl h3 ?_
  refine z_if_ne 3 10 19 rfl rfl (by decide) ?_ ?_
  · refine z_aload0 4 11 rfl rfl ?_
    refine z_bipush 5 13 rfl rfl cb_6 ?_
    refine z_cV1I 6 16 rfl rfl zl_X10_82 F_X10_refuse (zR_rm (by omega)) (c_X10_refuse X d a0 (6 : Int32) σ) ⟨by decide, rfl, rfl⟩ h0 rfl (Nat.le_of_ble_eq_true rfl) (fun r4 σ5 => ?_)
    refine z_pop 7 17 rfl rfl rfl ?_
    refine z_iconst 8 18 rfl rfl ci_0 ?_
    exact z_zret 9 rfl rfl
  · refine z_aload0 10 20 rfl rfl ?_
    refine z_getR 11 23 5 rfl rfl zf_X10_40 rfl h0 ?_
    refine z_dup 12 24 rfl rfl rfl ?_
    refine z_getI 13 27 2 rfl rfl zf_X10_112 rfl h3 ?_
    refine z_iconst 14 28 rfl rfl ci_1 ?_
    refine z_isub 15 29 rfl rfl ?_
    refine z_putI 16 32 2 rfl rfl zf_X10_112 rfl rfl rfl h3 (fun σ6 => ?_)
    refine z_aload0 17 33 rfl rfl ?_
    refine z_getR 18 36 5 rfl rfl zf_X10_40 rfl h0 ?_
    refine z_ck (fun h7 => ?_)
    refine z_getR 19 39 0 rfl rfl zf_X10_340 rfl h7 ?_
    refine z_aload0 20 40 rfl rfl ?_
    refine z_getR 21 43 5 rfl rfl zf_X10_40 rfl h0 ?_
    refine z_getI 22 46 2 rfl rfl zf_X10_112 rfl h7 ?_
    refine z_iald 23 47 rfl rfl ?_
    refine z_istore1 24 48 rfl rfl rfl (fun v8 => ?_)
    refine z_aload0 25 49 rfl rfl ?_
    refine z_getR 26 52 5 rfl rfl zf_X10_40 rfl h0 ?_
    refine z_getR 27 55 1 rfl rfl zf_X10_343 rfl h7 ?_
    refine z_aload0 28 56 rfl rfl ?_
    refine z_getR 29 59 5 rfl rfl zf_X10_40 rfl h0 ?_
    refine z_getI 30 62 2 rfl rfl zf_X10_112 rfl h7 ?_
    refine z_iald 31 63 rfl rfl ?_
    refine z_istore2 32 64 rfl rfl rfl (fun v9 => ?_)
    refine z_iload1 33 65 rfl rfl ?_
    refine z_if_ne 34 68 79 rfl rfl (by decide) ?_ ?_
    · refine z_aload0 35 69 rfl rfl ?_
      refine z_getR 36 72 3 rfl rfl zf_X10_29 rfl h0 ?_
      refine z_iload2 37 73 rfl rfl ?_
      refine z_ck (fun h10 => ?_)
      refine z_putI 38 76 5 rfl rfl zf_X10_216 rfl rfl rfl h10 (fun σ11 => ?_)
      refine z_goto 39 119 rfl (by decide) ?_
      exact z_wk (zle_e (zle_n (zle_n zle_0))) (t_X10_undo_119 X d hd a0 h0  σ11)
    · refine z_iload1 40 80 rfl rfl ?_
      refine z_iconst 41 81 rfl rfl ci_1 ?_
      refine z_icmp_ne 42 84 104 rfl rfl (by decide) ?_ ?_
      · refine z_aload0 43 85 rfl rfl ?_
        refine z_getR 44 88 3 rfl rfl zf_X10_29 rfl h0 ?_
        refine z_dup 45 89 rfl rfl rfl ?_
        refine z_ck (fun h12 => ?_)
        refine z_getI 46 92 6 rfl rfl zf_X10_178 rfl h12 ?_
        refine z_iconst 47 93 rfl rfl ci_1 ?_
        refine z_iload2 48 94 rfl rfl ?_
        refine z_ishl 49 95 rfl rfl ?_
        refine z_iconst 50 96 rfl rfl ci_m1 ?_
        refine z_ixor 51 97 rfl rfl ?_
        refine z_iand 52 98 rfl rfl ?_
        refine z_putI 53 101 6 rfl rfl zf_X10_178 rfl rfl rfl h12 (fun σ13 => ?_)
        refine z_goto 54 119 rfl (by decide) ?_
        exact z_wk (zle_e (zle_n (zle_n zle_0))) (t_X10_undo_119 X d hd a0 h0  σ13)
      · refine z_aload0 55 105 rfl rfl ?_
        refine z_getR 56 108 3 rfl rfl zf_X10_29 rfl h0 ?_
        refine z_dup 57 109 rfl rfl rfl ?_
        refine z_ck (fun h14 => ?_)
        refine z_getI 58 112 7 rfl rfl zf_X10_147 rfl h14 ?_
        refine z_iconst 59 113 rfl rfl ci_1 ?_
        refine z_iload2 60 114 rfl rfl ?_
        refine z_ishl 61 115 rfl rfl ?_
        refine z_ixor 62 116 rfl rfl ?_
        refine z_putI 63 119 7 rfl rfl zf_X10_147 rfl rfl rfl h14 (fun σ15 => ?_)
        exact z_wk (zle_e (zle_n (zle_n zle_0))) (t_X10_undo_119 X d hd a0 h0  σ15)
def f_X10_image (a0 : Nat) (σ : zS) : Option (Int32 × zS) := zck (WC.2 a0 = (10, 0)) (zbd (f_X10_noLetter a0 σ) (fun r1 σ2 => zbr (r1 = 0) (zbr ((σ2.1 a0 9) < (3 : Int32)) (zck (zok 103 (WC.2 (σ2.2 a0 4)) (σ2.1 a0 9)) (zck (WC.2 (σ2.2 (σ2.2 a0 4) (σ2.1 a0 9).toNatClampNeg) = (6, 0)) (zbd (f_X6_copyFrom (σ2.2 (σ2.2 a0 4) (σ2.1 a0 9).toNatClampNeg) (σ2.2 a0 3) σ2) (fun r4 σ5 => zlt (zpi σ5 a0 9 ((σ5.1 a0 9) + (1 : Int32))) (fun σ6 => zbd (f_X10_grant a0 ((σ6.1 a0 9) - (1 : Int32)) σ6) (fun r7 σ8 => some (r7, σ8))))))) (zbd (f_X10_refuse a0 (3 : Int32) σ2) (fun r9 σ10 => some (r9, σ10)))) (zbd (f_X10_refuse a0 (1 : Int32) σ2) (fun r11 σ12 => some (r11, σ12)))))
theorem c_X10_image (X : zX) (d : Nat) (hd : 1 ≤ d) (a0 : Nat) (σ : zS) : ∀ (r : Int32) (σ' : zS), f_X10_image a0 σ = some (r, σ') → zCN X WC d M_X10_image [.ref a0] σ (zeI r, σ') := by
  obtain ⟨d, rfl⟩ : ∃ e, d = e + 1 := ⟨d - 1, by omega⟩
  refine z_entry [.ref a0] (by decide +kernel) T_X10_image (Nat.le_of_ble_eq_true rfl) ?_
  show zK X WC (zrm (d + 1)) M_X10_image (zZ X WC zeI) 0 [some (.ref a0)] [] σ (f_X10_image a0 σ)
  unfold f_X10_image
  refine z_ck (fun h0 => ?_)
  refine z_aload0 0 1 rfl rfl ?_
  refine z_cV0I 1 4 rfl rfl zl_X10_198 F_X10_noLetter (zR_rm (by omega)) (c_X10_noLetter X d a0 σ) ⟨by decide, rfl, rfl⟩ h0 rfl (Nat.le_of_ble_eq_true rfl) (fun r1 σ2 => ?_)
  refine z_if_eq 2 7 13 rfl rfl (by decide) ?_ ?_
  · refine z_aload0 7 14 rfl rfl ?_
    refine z_getI 8 17 9 rfl rfl zf_X10_115 rfl h0 ?_
    refine z_iconst 9 18 rfl rfl ci_3 ?_
    refine z_icmp_lt 10 21 27 rfl rfl (by decide) ?_ ?_
    · refine z_aload0 15 28 rfl rfl ?_
      refine z_getR 16 31 4 rfl rfl zf_X10_33 rfl h0 ?_
      refine z_aload0 17 32 rfl rfl ?_
      refine z_getI 18 35 9 rfl rfl zf_X10_115 rfl h0 ?_
      refine z_aald 19 36 rfl rfl ?_
      refine z_aload0 20 37 rfl rfl ?_
      refine z_getR 21 40 3 rfl rfl zf_X10_29 rfl h0 ?_
      refine z_ck (fun h3 => ?_)
      refine z_cV1V 22 43 rfl rfl zl_X10_100 F_X6_copyFrom (zR_rm (by omega)) (c_X6_copyFrom X d (σ2.2 (σ2.2 a0 4) (σ2.1 a0 9).toNatClampNeg) (σ2.2 a0 3) σ2) ⟨by decide, rfl, rfl⟩ h3 rfl (Nat.le_of_ble_eq_true rfl) (fun r4 σ5 => ?_)
      refine z_aload0 23 44 rfl rfl ?_
      refine z_dup 24 45 rfl rfl rfl ?_
      refine z_getI 25 48 9 rfl rfl zf_X10_115 rfl h0 ?_
      refine z_iconst 26 49 rfl rfl ci_1 ?_
      refine z_iadd 27 50 rfl rfl ?_
      refine z_putI 28 53 9 rfl rfl zf_X10_115 rfl rfl rfl h0 (fun σ6 => ?_)
      refine z_aload0 29 54 rfl rfl ?_
      refine z_aload0 30 55 rfl rfl ?_
      refine z_getI 31 58 9 rfl rfl zf_X10_115 rfl h0 ?_
      refine z_iconst 32 59 rfl rfl ci_1 ?_
      refine z_isub 33 60 rfl rfl ?_
      refine z_cV1I 34 63 rfl rfl zl_X10_121 F_X10_grant (zR_rm (by omega)) (c_X10_grant X d a0 ((σ6.1 a0 9) - (1 : Int32)) σ6) ⟨by decide, rfl, rfl⟩ h0 rfl (Nat.le_of_ble_eq_true rfl) (fun r7 σ8 => ?_)
      exact z_iret 35 rfl rfl
    · refine z_aload0 11 22 rfl rfl ?_
      refine z_iconst 12 23 rfl rfl ci_3 ?_
      refine z_cV1I 13 26 rfl rfl zl_X10_82 F_X10_refuse (zR_rm (by omega)) (c_X10_refuse X d a0 (3 : Int32) σ2) ⟨by decide, rfl, rfl⟩ h0 rfl (Nat.le_of_ble_eq_true rfl) (fun r9 σ10 => ?_)
      exact z_iret 14 rfl rfl
  · refine z_aload0 3 8 rfl rfl ?_
    refine z_iconst 4 9 rfl rfl ci_1 ?_
    refine z_cV1I 5 12 rfl rfl zl_X10_82 F_X10_refuse (zR_rm (by omega)) (c_X10_refuse X d a0 (1 : Int32) σ2) ⟨by decide, rfl, rfl⟩ h0 rfl (Nat.le_of_ble_eq_true rfl) (fun r11 σ12 => ?_)
    exact z_iret 6 rfl rfl
def f_X10_back_12 (a0 : Nat)  (σ : zS) : Option (Int32 × zS) := zbd (f_X10_refuse a0 (1 : Int32) σ) (fun r1 σ2 => zck (zb (0 : Int32)) (some ((0 : Int32), σ2)))
theorem t_X10_back_12 (X : zX) (d : Nat) (hd : 1 ≤ d + 1) (a0 : Nat) (h0 : WC.2 a0 = (10, 0))  (σ : zS) : zK X WC (zrm (d + 1)) M_X10_back (zZ X WC zeI) 12 [some (.ref a0), none] [] σ (f_X10_back_12 a0 σ) := by
  unfold f_X10_back_12
  refine z_aload0 6 13 rfl rfl ?_
  refine z_iconst 7 14 rfl rfl ci_1 ?_
  refine z_cV1I 8 17 rfl rfl zl_X10_82 F_X10_refuse (zR_rm (by omega)) (c_X10_refuse X d a0 (1 : Int32) σ) ⟨by decide, rfl, rfl⟩ h0 rfl (Nat.le_of_ble_eq_true rfl) (fun r1 σ2 => ?_)
  refine z_pop 9 18 rfl rfl rfl ?_
  refine z_iconst 10 19 rfl rfl ci_0 ?_
  exact z_zret 11 rfl rfl
def f_X10_back (a0 : Nat) (x1 : Int32) (σ : zS) : Option (Int32 × zS) := zck (WC.2 a0 = (10, 0)) (zbr (x1 < 0) (f_X10_back_12 a0 σ) (zbr (x1 < (σ.1 a0 9)) (zck (zok 103 (WC.2 (σ.2 a0 4)) x1) (zck (WC.2 (σ.2 a0 3) = (6, 0)) (zbd (f_X6_copyFrom (σ.2 a0 3) (σ.2 (σ.2 a0 4) x1.toNatClampNeg) σ) (fun r4 σ5 => zck (WC.2 (σ5.2 a0 5) = (7, 0)) (zlt (zpi σ5 (σ5.2 a0 5) 2 (0 : Int32)) (fun σ7 => zbd (f_X10_grant a0 (0 : Int32) σ7) (fun r8 σ9 => zck (zb (1 : Int32)) (some ((1 : Int32), σ9))))))))) (f_X10_back_12 a0 σ)))
theorem c_X10_back (X : zX) (d : Nat) (hd : 1 ≤ d) (a0 : Nat) (x1 : Int32) (σ : zS) : ∀ (r : Int32) (σ' : zS), f_X10_back a0 x1 σ = some (r, σ') → zCN X WC d M_X10_back [.ref a0, .int x1] σ (zeI r, σ') := by
  obtain ⟨d, rfl⟩ : ∃ e, d = e + 1 := ⟨d - 1, by omega⟩
  refine z_entry [.ref a0, .int x1] (by decide +kernel) T_X10_back (Nat.le_of_ble_eq_true rfl) ?_
  show zK X WC (zrm (d + 1)) M_X10_back (zZ X WC zeI) 0 [some (.ref a0), some (.int x1)] [] σ (f_X10_back a0 x1 σ)
  unfold f_X10_back
  refine z_ck (fun h0 => ?_)
  refine z_iload1 0 1 rfl rfl ?_
  refine z_if_lt 1 4 12 rfl rfl (by decide) ?_ ?_
  · exact z_wk (zle_e (zle_n zle_0)) (t_X10_back_12 X d hd a0 h0  σ)
  · refine z_iload1 2 5 rfl rfl ?_
    refine z_aload0 3 6 rfl rfl ?_
    refine z_getI 4 9 9 rfl rfl zf_X10_115 rfl h0 ?_
    refine z_icmp_lt 5 12 20 rfl rfl (by decide) ?_ ?_
    · refine z_aload0 12 21 rfl rfl ?_
      refine z_getR 13 24 3 rfl rfl zf_X10_29 rfl h0 ?_
      refine z_aload0 14 25 rfl rfl ?_
      refine z_getR 15 28 4 rfl rfl zf_X10_33 rfl h0 ?_
      refine z_iload1 16 29 rfl rfl ?_
      refine z_aald 17 30 rfl rfl ?_
      refine z_ck (fun h3 => ?_)
      refine z_cV1V 18 33 rfl rfl zl_X10_100 F_X6_copyFrom (zR_rm (by omega)) (c_X6_copyFrom X d (σ.2 a0 3) (σ.2 (σ.2 a0 4) x1.toNatClampNeg) σ) ⟨by decide, rfl, rfl⟩ h3 rfl (Nat.le_of_ble_eq_true rfl) (fun r4 σ5 => ?_)
      refine z_aload0 19 34 rfl rfl ?_
      refine z_getR 20 37 5 rfl rfl zf_X10_40 rfl h0 ?_
      refine z_iconst 21 38 rfl rfl ci_0 ?_
      refine z_ck (fun h6 => ?_)
      refine z_putI 22 41 2 rfl rfl zf_X10_112 rfl rfl rfl h6 (fun σ7 => ?_)
      refine z_aload0 23 42 rfl rfl ?_
      refine z_iconst 24 43 rfl rfl ci_0 ?_
      refine z_cV1I 25 46 rfl rfl zl_X10_121 F_X10_grant (zR_rm (by omega)) (c_X10_grant X d a0 (0 : Int32) σ7) ⟨by decide, rfl, rfl⟩ h0 rfl (Nat.le_of_ble_eq_true rfl) (fun r8 σ9 => ?_)
      refine z_pop 26 47 rfl rfl rfl ?_
      refine z_iconst 27 48 rfl rfl ci_1 ?_
      exact z_zret 28 rfl rfl
    · exact z_wk (zle_e (zle_n zle_0)) (t_X10_back_12 X d hd a0 h0  σ)
def f_X10_size (a0 : Nat) (x1 : Int32) (σ : zS) : Option (Int32 × zS) := zck (WC.2 a0 = (10, 0)) (zbr (x1 = (0 : Int32)) (zck (WC.2 (σ.2 a0 8) = (3, 0)) (some ((σ.1 (σ.2 a0 8) 9), σ))) (zbr (x1 = (1 : Int32)) (zck (WC.2 (σ.2 a0 8) = (3, 0)) (some ((σ.1 (σ.2 a0 8) 10), σ))) (zbr (x1 = (2 : Int32)) (zck (WC.2 (σ.2 a0 8) = (3, 0)) (some ((σ.1 (σ.2 a0 8) 11), σ))) (zbr (x1 = (3 : Int32)) (zck (WC.2 (σ.2 a0 8) = (3, 0)) (some ((σ.1 (σ.2 a0 8) 12), σ))) (zbr (x1 = (4 : Int32)) (zck (WC.2 (σ.2 a0 8) = (3, 0)) (some ((σ.1 (σ.2 a0 8) 13), σ))) (zbr (x1 = (5 : Int32)) (zck (WC.2 (σ.2 a0 3) = (6, 0)) (some ((σ.1 (σ.2 a0 3) 5), σ))) (zbr (x1 = (6 : Int32)) (zck (WC.2 (σ.2 a0 8) = (3, 0)) (some ((σ.1 (σ.2 a0 8) 14), σ))) (zbr (x1 = (7 : Int32)) (zck (WC.2 (σ.2 a0 8) = (3, 0)) (some ((σ.1 (σ.2 a0 8) 15), σ))) (zbr (x1 = (8 : Int32)) (zck (WC.2 (σ.2 a0 8) = (3, 0)) (zck (WC.2 (σ.2 (σ.2 a0 8) 8) = (0, 0)) (some ((σ.1 (σ.2 (σ.2 a0 8) 8) 4), σ)))) (zbr (x1 = (9 : Int32)) (zck (WC.2 (σ.2 a0 5) = (7, 0)) (some ((σ.1 (σ.2 a0 5) 2), σ))) (zbr (x1 = (10 : Int32)) (some ((σ.1 a0 9), σ)) (zbr (x1 = (11 : Int32)) (zck (WC.2 (σ.2 a0 0) = (8, 0)) (zck (WC.2 (σ.2 (σ.2 a0 0) 0) = (9, 0)) (some ((σ.1 (σ.2 (σ.2 a0 0) 0) 1), σ)))) (some ((-1 : Int32), σ))))))))))))))
theorem c_X10_size (X : zX) (d : Nat) (a0 : Nat) (x1 : Int32) (σ : zS) : ∀ (r : Int32) (σ' : zS), f_X10_size a0 x1 σ = some (r, σ') → zCN X WC d M_X10_size [.ref a0, .int x1] σ (zeI r, σ') := by
  refine z_entry [.ref a0, .int x1] (by decide +kernel) T_X10_size (Nat.le_of_ble_eq_true rfl) ?_
  show zK X WC (zrm d) M_X10_size (zZ X WC zeI) 0 [some (.ref a0), some (.int x1)] [] σ (f_X10_size a0 x1 σ)
  unfold f_X10_size
  refine z_ck (fun h0 => ?_)
  refine z_iload1 0 1 rfl rfl ?_
  refine z_br (fun e1 => ?_) (fun e1 => ?_)
  · refine z_tabIn 1 64 rfl e1 ct_0 (by decide) (by decide) rfl (by decide) ?_
    refine z_aload0 2 65 rfl rfl ?_
    refine z_getR 3 68 8 rfl rfl zf_X10_61 rfl h0 ?_
    refine z_ck (fun h2 => ?_)
    refine z_getI 4 71 9 rfl rfl zf_X10_349 rfl h2 ?_
    exact z_iret 5 rfl rfl
  refine z_br (fun e3 => ?_) (fun e3 => ?_)
  · refine z_tabIn 1 72 rfl e3 ct_1 (by decide) (by decide) rfl (by decide) ?_
    refine z_aload0 6 73 rfl rfl ?_
    refine z_getR 7 76 8 rfl rfl zf_X10_61 rfl h0 ?_
    refine z_ck (fun h4 => ?_)
    refine z_getI 8 79 10 rfl rfl zf_X10_118 rfl h4 ?_
    exact z_iret 9 rfl rfl
  refine z_br (fun e5 => ?_) (fun e5 => ?_)
  · refine z_tabIn 1 80 rfl e5 ct_2 (by decide) (by decide) rfl (by decide) ?_
    refine z_aload0 10 81 rfl rfl ?_
    refine z_getR 11 84 8 rfl rfl zf_X10_61 rfl h0 ?_
    refine z_ck (fun h6 => ?_)
    refine z_getI 12 87 11 rfl rfl zf_X10_255 rfl h6 ?_
    exact z_iret 13 rfl rfl
  refine z_br (fun e7 => ?_) (fun e7 => ?_)
  · refine z_tabIn 1 88 rfl e7 ct_3 (by decide) (by decide) rfl (by decide) ?_
    refine z_aload0 14 89 rfl rfl ?_
    refine z_getR 15 92 8 rfl rfl zf_X10_61 rfl h0 ?_
    refine z_ck (fun h8 => ?_)
    refine z_getI 16 95 12 rfl rfl zf_X10_205 rfl h8 ?_
    exact z_iret 17 rfl rfl
  refine z_br (fun e9 => ?_) (fun e9 => ?_)
  · refine z_tabIn 1 96 rfl e9 ct_4 (by decide) (by decide) rfl (by decide) ?_
    refine z_aload0 18 97 rfl rfl ?_
    refine z_getR 19 100 8 rfl rfl zf_X10_61 rfl h0 ?_
    refine z_ck (fun h10 => ?_)
    refine z_getI 20 103 13 rfl rfl zf_X10_202 rfl h10 ?_
    exact z_iret 21 rfl rfl
  refine z_br (fun e11 => ?_) (fun e11 => ?_)
  · refine z_tabIn 1 104 rfl e11 ct_5 (by decide) (by decide) rfl (by decide) ?_
    refine z_aload0 22 105 rfl rfl ?_
    refine z_getR 23 108 3 rfl rfl zf_X10_29 rfl h0 ?_
    refine z_ck (fun h12 => ?_)
    refine z_getI 24 111 5 rfl rfl zf_X10_216 rfl h12 ?_
    exact z_iret 25 rfl rfl
  refine z_br (fun e13 => ?_) (fun e13 => ?_)
  · refine z_tabIn 1 112 rfl e13 ct_6 (by decide) (by decide) rfl (by decide) ?_
    refine z_aload0 26 113 rfl rfl ?_
    refine z_getR 27 116 8 rfl rfl zf_X10_61 rfl h0 ?_
    refine z_ck (fun h14 => ?_)
    refine z_getI 28 119 14 rfl rfl zf_X10_352 rfl h14 ?_
    exact z_iret 29 rfl rfl
  refine z_br (fun e15 => ?_) (fun e15 => ?_)
  · refine z_tabIn 1 120 rfl e15 ct_7 (by decide) (by decide) rfl (by decide) ?_
    refine z_aload0 30 121 rfl rfl ?_
    refine z_getR 31 124 8 rfl rfl zf_X10_61 rfl h0 ?_
    refine z_ck (fun h16 => ?_)
    refine z_getI 32 127 15 rfl rfl zf_X10_355 rfl h16 ?_
    exact z_iret 33 rfl rfl
  refine z_br (fun e17 => ?_) (fun e17 => ?_)
  · refine z_tabIn 1 128 rfl e17 ct_8 (by decide) (by decide) rfl (by decide) ?_
    refine z_aload0 34 129 rfl rfl ?_
    refine z_getR 35 132 8 rfl rfl zf_X10_61 rfl h0 ?_
    refine z_ck (fun h18 => ?_)
    refine z_getR 36 135 8 rfl rfl zf_X10_264 rfl h18 ?_
    refine z_ck (fun h19 => ?_)
    refine z_getI 37 138 4 rfl rfl zf_X10_273 rfl h19 ?_
    exact z_iret 38 rfl rfl
  refine z_br (fun e20 => ?_) (fun e20 => ?_)
  · refine z_tabIn 1 139 rfl e20 ct_9 (by decide) (by decide) rfl (by decide) ?_
    refine z_aload0 39 140 rfl rfl ?_
    refine z_getR 40 143 5 rfl rfl zf_X10_40 rfl h0 ?_
    refine z_ck (fun h21 => ?_)
    refine z_getI 41 146 2 rfl rfl zf_X10_112 rfl h21 ?_
    exact z_iret 42 rfl rfl
  refine z_br (fun e22 => ?_) (fun e22 => ?_)
  · refine z_tabIn 1 147 rfl e22 ct_10 (by decide) (by decide) rfl (by decide) ?_
    refine z_aload0 43 148 rfl rfl ?_
    refine z_getI 44 151 9 rfl rfl zf_X10_115 rfl h0 ?_
    exact z_iret 45 rfl rfl
  refine z_br (fun e23 => ?_) (fun e23 => ?_)
  · refine z_tabIn 1 152 rfl e23 ct_11 (by decide) (by decide) rfl (by decide) ?_
    refine z_aload0 46 153 rfl rfl ?_
    refine z_getR 47 156 0 rfl rfl zf_X10_12 rfl h0 ?_
    refine z_ck (fun h24 => ?_)
    refine z_getR 48 159 0 rfl rfl zf_X10_69 rfl h24 ?_
    refine z_ck (fun h25 => ?_)
    refine z_getI 49 162 1 rfl rfl zf_X10_73 rfl h25 ?_
    exact z_iret 50 rfl rfl
  refine z_tabOut 1 163 rfl (z_out 12 (fun j hj => by rcases (show j = 0 ∨ j = 1 ∨ j = 2 ∨ j = 3 ∨ j = 4 ∨ j = 5 ∨ j = 6 ∨ j = 7 ∨ j = 8 ∨ j = 9 ∨ j = 10 ∨ j = 11 by omega) with rfl | rfl | rfl | rfl | rfl | rfl | rfl | rfl | rfl | rfl | rfl | rfl <;> assumption) (by decide) 11 (by decide)) (by decide) ?_
  refine z_iconst 51 164 rfl rfl ci_m1 ?_
  exact z_iret 52 rfl rfl
def f_X10_trouble (a0 : Nat) (σ : zS) : Option (Int32 × zS) := zck (WC.2 a0 = (10, 0)) (some ((σ.1 a0 10), σ))
theorem c_X10_trouble (X : zX) (d : Nat) (a0 : Nat) (σ : zS) : ∀ (r : Int32) (σ' : zS), f_X10_trouble a0 σ = some (r, σ') → zCN X WC d M_X10_trouble [.ref a0] σ (zeI r, σ') := by
  refine z_entry [.ref a0] (by decide +kernel) T_X10_trouble (Nat.le_of_ble_eq_true rfl) ?_
  show zK X WC (zrm d) M_X10_trouble (zZ X WC zeI) 0 [some (.ref a0)] [] σ (f_X10_trouble a0 σ)
  unfold f_X10_trouble
  refine z_ck (fun h0 => ?_)
  refine z_aload0 0 1 rfl rfl ?_
  refine z_getI 1 4 10 rfl rfl zf_X10_124 rfl h0 ?_
  exact z_iret 2 rfl rfl
