def M_X10_led : zM := (⟨RX10, "led", "(I)I"⟩, prog_1_method_52_code, 5, (some .int), [(0, .aload_n 0, 1), (1, .getfield 29, 3), (4, .invokevirtual 181, 3), (7, .istore_n 2, 1), (8, .iconst 0, 1), (9, .istore_n 3, 1), (10, .iconst 0, 1), (11, .istore 4, 2), (13, .iload 4, 2), (15, .aload_n 0, 1), (16, .getfield 61, 3), (19, .getfield 202, 3), (22, .if_icmp .ge 32, 3), (25, .aload_n 0, 1), (26, .iload 4, 2), (28, .iload_n 2, 1), (29, .invokevirtual 191, 3), (32, .bipush (-2), 2), (34, .if_icmp .ne 14, 3), (37, .iload_n 3, 1), (38, .iload_n 1, 1), (39, .if_icmp .ne 6, 3), (42, .iload 4, 2), (44, .ireturn, 1), (45, .iinc 3 1, 3), (48, .iinc 4 1, 3), (51, .goto (-38), 3), (54, .new 346, 3), (57, .dup, 1), (58, .invokespecial 348, 3), (61, .athrow, 1)])
theorem T_X10_led : zT M_X10_led := zT_of (by decide +kernel)
theorem F_X10_led : zMV M_X10_led 1 := ⟨⟨zTT_in (i := 1233) (by decide +kernel) rfl, zTT_in (i := 136) (by decide +kernel) rfl, ⟨by decide, by decide, by decide +kernel⟩, by decide⟩, zTT_in (i := 1231) (by decide +kernel) rfl, zTT_in (i := 1232) (by decide +kernel) rfl⟩
def zNSE : String := "java/util/NoSuchElementException"
def zNm : List String := ["java/lang/RuntimeException", "java/lang/Exception"]
def zat : List Cond := vx_at0 RX10 348 zNSE zNm
theorem zat_good : ∀ w ∈ zat.filter goodWord, w ∈ lw_tbl := by decide +kernel
def zbad : List Cond := [.castable zNSE zNSE, .declares ⟨"java/lang/RuntimeException", "<init>", "()V"⟩, .declares ⟨"java/lang/Exception", "<init>", "()V"⟩, .declares ⟨"java/lang/Throwable", "<init>", "()V"⟩]
theorem zat_bad : ∀ w ∈ zat.filter (fun w => !goodWord w), w ∈ zbad := by decide +kernel
theorem zbad_on : ∀ w ∈ zbad, w.onTables = true := by decide +kernel
theorem zbad_warm {s U : State} (hW : s.WarmedH U.vm) (h : ∀ w ∈ zbad, va_Nw w s) : ∀ w ∈ zbad, va_Nw w U := by
  intro w hw
  have h1 := h w hw
  simp only [zbad, List.mem_cons, List.not_mem_nil, or_false] at hw
  rcases hw with rfl | rfl | rfl | rfl
  · exact va_Nw.warmC hW h1
  · exact va_Nw.warmD hW h1
  · exact va_Nw.warmD hW h1
  · exact va_Nw.warmD hW h1
theorem zat_ot : ∀ w ∈ Cond.classLink RX10 346 zNSE :: Cond.initialized zNSE :: zat, vx_ot w = true := by decide +kernel
/-- what a throw needs besides -/
def zXu (X : zX) (w : zW) (U : State) : Prop := (∀ w ∈ zbad, va_Nw w U) ∧ vx_Zq Bundle.tN "UNASSIGNED_STACK" Bundle.steD (zA X w) U U.heap ∧ vx_Zq Bundle.tN "SUPPRESSED_SENTINEL" Bundle.listD (zA X w) U U.heap ∧ X.1.stackTraces = false
def zTb (s : State) : Prop := ∀ (m : MethodId) (args : Array Value) (below : List Frame), s.frames = .invoking m args :: below → ∀ (meth : Method) (c : Code), s.vm.method? m = some meth → meth.code = some c → ∀ x ∈ c.exceptionTable.toList, False
def zQl (X : zX) (w : zW) (r : Option Int32) (σ : zS) : Array Value → State → Outcome → State → Prop := match r with
  | some v => zQc X w (some (.int v), σ)
  | none => fun _ _ _ _ => False
def zXl (X : zX) (w : zW) (r : Option Int32) (σ : zS) : String → State → State → Prop := fun E st t => r = none ∧ E = zNSE ∧ va_P X.2.1 vwCl (zw X w σ) t.heap ∧ va_F (zA X w) st t
def zZl (X : zX) (w : zW) : Option Int32 → zS → zZt := fun r σ below args s t => zXu X w s ∧ zTb s → vx_MQ below (zQl X w r σ) (zXl X w r σ) args s 1 6 (zA X w) t
theorem z_ledret {X : zX} {w : zW} {R : Room} {pc : Nat} {L : List (Option Value)} {σ : zS} (i : Nat) {v : Int32} (hd : M_X10_led.2.2.2.2[i]? = some (pc, .ireturn, 1)) : zK X w R M_X10_led (zZl X w) pc L [.int v] σ (some (some v, σ)) := by
  intro r σ' hk p e s m args below meth c C H locs ls hP hS hl
  cases hk
  intro T hT Xs
  obtain ⟨t, a1, b1⟩ := vx_ret (XC := zXl X w (some v) σ) (Qc := zQc X w (some (.int v), σ)) (W.widen (k := 1) (n := 6) (Nat.zero_le _) (Nat.zero_le _) (W.iret (v := v) C.hx C.hb C.hr (fun t ht hW => ⟨⟨rfl, zB_end C hP hS t ht hW⟩, hS.F ht⟩) hS.2.2 (C.dec hd) C.hlk)) T hT Xs
  exact ⟨t, a1, fun _ => b1⟩
theorem z_ledthrow {X : zX} {w : zW} {d pc : Nat} {L : List (Option Value)} {σ : zS} (i : Nat) (hd0 : M_X10_led.2.2.2.2[i]? = some (pc, .new 346, 3)) (hd1 : M_X10_led.2.2.2.2[i + 1]? = some (pc + 3, .dup, 1)) (hd2 : M_X10_led.2.2.2.2[i + 2]? = some (pc + 4, .invokespecial 348, 3)) (hd3 : M_X10_led.2.2.2.2[i + 3]? = some (pc + 7, .athrow, 1)) (hdd : 7 ≤ d) (hLn : L.length = M_X10_led.2.2.1) : zK X w (zrn d 1 6) M_X10_led (zZl X w) pc L [] σ (some (none, σ)) := by
  intro r σ' hk p e s m args below meth c C H locs ls hP hS hl
  cases hk
  by_cases hX : zXu X w s ∧ zTb s
  · intro T hT Xs
    obtain ⟨⟨x1, x2, x3, x4⟩, x5⟩ := hX
    have hout : ∀ x ∈ c.exceptionTable.toList, covers x (pc + 7) = false := fun x hx => (x5 m args below Xs.frames meth c Xs.method Xs.code x hx).elim
    have hk1 : Cond.classLink RX10 346 zNSE ∈ zTT := zTT_in (i := 1234) (by decide +kernel) rfl
    have hk2 : Cond.initialized zNSE ∈ zTT := zTT_in (i := 158) (by decide +kernel) rfl
    have hat : ∀ w ∈ zat, w.before args s = true := vx_hat (B := zbad) (fun w hw => C.hts w (List.mem_filter.mpr ⟨zat_good w hw, (List.mem_filter.mp hw).2⟩)) zat_bad (fun w hw => va_Nw.use (zbad_on w hw) (x1 w hw))
    obtain ⟨t, a1, b1⟩ := vx_throw0 (Qc := zQl X w none σ) (XC := zXl X w none σ) (free := zA X w) (mc := 1) (ms := 6) (rest := []) (names := zNm) (cls := zNSE) (own := RX10) C.hx C.hb x4 C.hown (by decide +kernel) (by decide +kernel) (C.hts _ hk1) (C.hts _ hk2) hat zat_ot x2 x3 hS (by rw [C.hml, hl.1]; simpa using hLn) (C.dec hd0) (C.dec hd1) (C.dec hd2) (C.dec hd3) hout (by show 2 + 3 < d; omega) (by show 0 + (13 * (2 + 1) + 42) ≤ 40 * d; omega) (Nat.le_refl _) (Nat.le_refl _) C.hlk
      (fun t hA hz hq => ⟨rfl, rfl, hP.kept (fun k q hk => hq q.1 ((hP k q hk).lt)), ⟨Nat.le_trans hS.1 hz, fun q g1 g2 => (hq q (Nat.lt_of_lt_of_le g1 hS.1)).trans (hS.2.1 q g1 g2)⟩⟩) hS.2.2 (Nat.le_refl _) (Nat.le_refl _) T hT Xs
    exact ⟨t, a1, fun _ => b1⟩
  · intro T hT Xs
    exact ⟨_, Steps.refl _, fun h => absurd h hX⟩
theorem zR_rn {d e a b : Nat} (h : d + 1 ≤ e) : zR (zrn e a b) d := ⟨h, Nat.mul_le_mul_left 40 h⟩
def f_X10_led_48 (a0 : Nat) (H13 : Int32 → Int32 → Int32 → Int32 → zS → Option ((Option Int32) × zS)) (x1 : Int32) (x2 : Int32) (x3 : Int32) (x4 : Int32) (σ : zS) : Option ((Option Int32) × zS) := zlt (x4 + (1 : Int32)) (fun v1 => H13 x1 x2 x3 v1 σ)
theorem t_X10_led_48 (X : zX) (d : Nat) (hd : 7 ≤ d + 1) (a0 : Nat) (h0 : WC.2 a0 = (10, 0)) (H13 : Int32 → Int32 → Int32 → Int32 → zS → Option ((Option Int32) × zS)) (hH13 : ∀ (x1 : Int32) (x2 : Int32) (x3 : Int32) (x4 : Int32) (σ : zS), zK X WC (zrn (d + 1) 1 6) M_X10_led (zZl X WC) 13 [some (.ref a0), some (.int x1), some (.int x2), some (.int x3), some (.int x4)] [] σ (H13 x1 x2 x3 x4 σ)) (x1 : Int32) (x2 : Int32) (x3 : Int32) (x4 : Int32) (σ : zS) : zK X WC (zrn (d + 1) 1 6) M_X10_led (zZl X WC) 48 [some (.ref a0), some (.int x1), some (.int x2), some (.int x3), some (.int x4)] [] σ (f_X10_led_48 a0 H13 x1 x2 x3 x4 σ) := by
  unfold f_X10_led_48
  refine z_iinc4 25 51 rfl rfl ci_1 rfl (fun v1 => ?_)
  refine z_goto 26 13 rfl (by decide) ?_
  exact hH13 x1 x2 x3 v1 σ
def f_X10_led_13 (a0 : Nat) : Nat → Int32 → Int32 → Int32 → Int32 → zS → Option ((Option Int32) × zS)
  | 0, _, _, _, _, _ => none
  | n + 1, x1, x2, x3, x4, σ => zck (WC.2 (σ.2 a0 8) = (3, 0)) (zbr ((σ.1 (σ.2 a0 8) 13) ≤ x4) (some (none, σ)) (zbd (f_X10_verdict a0 x4 x2 σ) (fun r3 σ4 => zbr (r3 = (-2 : Int32)) (zbr (x3 = x1) (some (some x4, σ4)) (zlt (x3 + (1 : Int32)) (fun v5 => f_X10_led_48 a0 (f_X10_led_13 a0 n) x1 x2 v5 x4 σ4))) (f_X10_led_48 a0 (f_X10_led_13 a0 n) x1 x2 x3 x4 σ4))))
theorem t_X10_led_13 (X : zX) (d : Nat) (hd : 7 ≤ d + 1) (a0 : Nat) (h0 : WC.2 a0 = (10, 0)) : ∀ (n : Nat) (x1 : Int32) (x2 : Int32) (x3 : Int32) (x4 : Int32) (σ : zS), zK X WC (zrn (d + 1) 1 6) M_X10_led (zZl X WC) 13 [some (.ref a0), some (.int x1), some (.int x2), some (.int x3), some (.int x4)] [] σ (f_X10_led_13 a0 n x1 x2 x3 x4 σ) := by
  intro n
  induction n with
  | zero => intro x1 x2 x3 x4 σ; exact z_none
  | succ n ih =>
    intro x1 x2 x3 x4 σ
    rw [f_X10_led_13]
    refine z_iload4 8 15 rfl rfl ?_
    refine z_aload0 9 16 rfl rfl ?_
    refine z_getR 10 19 8 rfl rfl zf_X10_61 rfl h0 ?_
    refine z_ck (fun h2 => ?_)
    refine z_getI 11 22 13 rfl rfl zf_X10_202 rfl h2 ?_
    refine z_icmp_ge 12 25 54 rfl rfl (by decide) ?_ ?_
    · exact z_ledthrow 27 rfl rfl rfl rfl (by omega) rfl
    · refine z_aload0 13 26 rfl rfl ?_
      refine z_iload4 14 28 rfl rfl ?_
      refine z_iload2 15 29 rfl rfl ?_
      refine z_cV2I 16 32 rfl rfl zl_X10_191 F_X10_verdict (zR_rn (by omega)) (c_X10_verdict X d (by omega) a0 x4 x2 σ) ⟨by decide, rfl, rfl⟩ h0 rfl (Nat.le_of_ble_eq_true rfl) (fun r3 σ4 => ?_)
      refine z_bipush 17 34 rfl rfl cb_m2 ?_
      refine z_icmp_ne 18 37 48 rfl rfl (by decide) ?_ ?_
      · refine z_iload3 19 38 rfl rfl ?_
        refine z_iload1 20 39 rfl rfl ?_
        refine z_icmp_ne 21 42 45 rfl rfl (by decide) ?_ ?_
        · refine z_iload4 22 44 rfl rfl ?_
          exact z_ledret 23 rfl
        · refine z_iinc3 24 48 rfl rfl ci_1 rfl (fun v5 => ?_)
          exact t_X10_led_48 X d hd a0 h0 (f_X10_led_13 a0 n) ih x1 x2 v5 x4 σ4
      · exact t_X10_led_48 X d hd a0 h0 (f_X10_led_13 a0 n) ih x1 x2 x3 x4 σ4
def f_X10_led (a0 : Nat) (x1 : Int32) (σ : zS) : Option ((Option Int32) × zS) := zck (WC.2 a0 = (10, 0)) (zck (WC.2 (σ.2 a0 3) = (6, 0)) (zbd (f_X6_read (σ.2 a0 3) σ) (fun r7 σ8 => zlt r7 (fun v9 => zlt (0 : Int32) (fun v10 => zlt (0 : Int32) (fun v11 => f_X10_led_13 a0 FU x1 v9 v10 v11 σ8))))))
theorem w_X10_led (X : zX) (d : Nat) (hd : 7 ≤ d + 1) (a0 : Nat) (x1 : Int32) (σ : zS) : zK X WC (zrn (d + 1) 1 6) M_X10_led (zZl X WC) 0 [some (.ref a0), some (.int x1), none, none, none] [] σ (f_X10_led a0 x1 σ) := by
  unfold f_X10_led
  refine z_ck (fun h0 => ?_)
  refine z_aload0 0 1 rfl rfl ?_
  refine z_getR 1 4 3 rfl rfl zf_X10_29 rfl h0 ?_
  refine z_ck (fun h6 => ?_)
  refine z_cV0I 2 7 rfl rfl zl_X10_181 F_X6_read (zR_rn (by omega)) (c_X6_read X d (σ.2 a0 3) σ) ⟨by decide, rfl, rfl⟩ h6 rfl (Nat.le_of_ble_eq_true rfl) (fun r7 σ8 => ?_)
  refine z_istore2 3 8 rfl rfl rfl (fun v9 => ?_)
  refine z_iconst 4 9 rfl rfl ci_0 ?_
  refine z_istore3 5 10 rfl rfl rfl (fun v10 => ?_)
  refine z_iconst 6 11 rfl rfl ci_0 ?_
  refine z_istore4 7 13 rfl rfl rfl (fun v11 => ?_)
  exact t_X10_led_13 X d hd a0 h0  FU x1 v9 v10 v11 σ8
theorem c_X10_led (X : zX) (d : Nat) (hd : 7 ≤ d) (a0 : Nat) (x1 : Int32) (σ : zS) : ∀ (r : Option Int32) (σ' : zS), f_X10_led a0 x1 σ = some (r, σ') → vx_Met X.1 M_X10_led.1 (Cond.code M_X10_led.1 M_X10_led.2.1 M_X10_led.2.2.1 M_X10_led.2.2.2.1 :: zTT) (zrn d 1 6) (va_Pc [.ref (za X a0), .int x1] (fun U => zB X WC σ U ∧ zXu X WC U)) (zQl X WC r σ') (zXl X WC r σ') 1 6 (zA X WC) := by
  intro r σ' hf
  obtain ⟨d, rfl⟩ : ∃ e, d = e + 1 := ⟨d - 1, by omega⟩
  refine vx_ofW (cc := M_X10_led.2.1) (maxL := M_X10_led.2.2.1) (ret := M_X10_led.2.2.2.1) (by decide +kernel) rfl ?_
  intro p e s m args below meth c s₁ B hml htb hv
  obtain ⟨rfl, ⟨hP, hK, hok, hV⟩, hXu⟩ := hv
  have hts := atoms_spec (ws := Cond.code M_X10_led.1 M_X10_led.2.1 M_X10_led.2.2.1 M_X10_led.2.2.2.1 :: zTT) B.pre
  have C : zC X WC M_X10_led p s m [.ref (za X a0), .int x1].toArray meth c := ⟨B.exec, B.bytes, hml, B.returns, B.notSynchronized, findClass_of_methodNamed B.named, fun w hw => hts w (List.mem_cons_of_mem _ hw), hK, hok, hV, T_X10_led⟩
  have key : zK X WC (zrn (d + 1) 1 6) M_X10_led (zZl X WC) 0 (zL0 M_X10_led.2.2.1 [.ref a0, .int x1]) [] σ (f_X10_led a0 x1 σ) := w_X10_led X d hd a0 x1 σ
  have h1 := key r σ' hf p e s m _ below meth c C s.heap [] _ hP va_S.rf (zl_entry X [.ref a0, .int x1] (Nat.le_of_ble_eq_true rfl))
  rw [lg_entry_eq]
  intro T hT Xs
  obtain ⟨t, a1, b1⟩ := h1 T hT Xs
  refine ⟨t, a1, b1 ⟨hXu, ?_⟩⟩
  intro m' args' below' hfr meth' c' h2 h3 x hx
  have e1 := hfr.symm.trans Xs.frames
  cases e1
  cases h2.symm.trans Xs.method
  cases h3.symm.trans Xs.code
  exact htb x hx

