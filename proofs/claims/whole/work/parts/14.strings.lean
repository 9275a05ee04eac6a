def M_Slength : zM := (⟨"java/lang/String", "length", "()I"⟩, prog_21_method_54_code, 1, (some .int), [(0, .aload_n 0, 1), (1, .getfield 9, 3), (4, .arraylength, 1), (5, .aload_n 0, 1), (6, .invokevirtual 335, 3), (9, .ishr, 1), (10, .ireturn, 1)])
theorem T_Slength : zT M_Slength := zT_of (by decide +kernel)
theorem F_Slength : zMV M_Slength 0 := ⟨⟨zTT_in (i := 610) (by decide +kernel) rfl, zTT_in (i := 148) (by decide +kernel) rfl, ⟨by decide, by decide, by decide +kernel⟩, by decide⟩, zTT_in (i := 608) (by decide +kernel) rfl, zTT_in (i := 609) (by decide +kernel) rfl⟩
def M_Scoder : zM := (⟨"java/lang/String", "code\x72", "()B"⟩, prog_21_method_152_code, 1, (some .byte), [(0, .getstatic 38, 3), (3, .ifCond .eq 10, 3), (6, .aload_n 0, 1), (7, .getfield 15, 3), (10, .goto 4, 3), (13, .iconst 1, 1), (14, .ireturn, 1)])
theorem T_Scoder : zT M_Scoder := zT_of (by decide +kernel)
theorem F_Scoder : zMV M_Scoder 0 := ⟨⟨zTT_in (i := 614) (by decide +kernel) rfl, zTT_in (i := 148) (by decide +kernel) rfl, ⟨by decide, by decide, by decide +kernel⟩, by decide⟩, zTT_in (i := 612) (by decide +kernel) rfl, zTT_in (i := 613) (by decide +kernel) rfl⟩
def M_ScharAt : zM := (⟨"java/lang/String", "charAt", "(I)C"⟩, prog_21_method_56_code, 2, (some .char), [(0, .aload_n 0, 1), (1, .invokevirtual 492, 3), (4, .ifCond .eq 12, 3), (7, .aload_n 0, 1), (8, .getfield 9, 3), (11, .iload_n 1, 1), (12, .invokestatic 495, 3), (15, .ireturn, 1), (16, .aload_n 0, 1), (17, .getfield 9, 3), (20, .iload_n 1, 1), (21, .invokestatic 498, 3), (24, .ireturn, 1)])
theorem T_ScharAt : zT M_ScharAt := zT_of (by decide +kernel)
theorem F_ScharAt : zMV M_ScharAt 1 := ⟨⟨zTT_in (i := 620) (by decide +kernel) rfl, zTT_in (i := 148) (by decide +kernel) rfl, ⟨by decide, by decide, by decide +kernel⟩, by decide⟩, zTT_in (i := 618) (by decide +kernel) rfl, zTT_in (i := 619) (by decide +kernel) rfl⟩
def M_SisLatin1 : zM := (⟨"java/lang/String", "isLatin1", "()Z"⟩, prog_21_method_154_code, 1, (some .boolean), [(0, .getstatic 38, 3), (3, .ifCond .eq 14, 3), (6, .aload_n 0, 1), (7, .getfield 15, 3), (10, .ifCond .ne 7, 3), (13, .iconst 1, 1), (14, .goto 4, 3), (17, .iconst 0, 1), (18, .ireturn, 1)])
theorem T_SisLatin1 : zT M_SisLatin1 := zT_of (by decide +kernel)
theorem F_SisLatin1 : zMV M_SisLatin1 0 := ⟨⟨zTT_in (i := 624) (by decide +kernel) rfl, zTT_in (i := 148) (by decide +kernel) rfl, ⟨by decide, by decide, by decide +kernel⟩, by decide⟩, zTT_in (i := 622) (by decide +kernel) rfl, zTT_in (i := 623) (by decide +kernel) rfl⟩
def M_SLcharAt : zM := (⟨"java/lang/StringLatin1", "charAt", "([BI)C"⟩, prog_22_method_2_code, 2, (some .char), [(0, .iload_n 1, 1), (1, .aload_n 0, 1), (2, .arraylength, 1), (3, .invokestatic 9, 3), (6, .aload_n 0, 1), (7, .iload_n 1, 1), (8, .baload, 1), (9, .sipush 255, 3), (12, .iand, 1), (13, .i2c, 1), (14, .ireturn, 1)])
theorem T_SLcharAt : zT M_SLcharAt := zT_of (by decide +kernel)
theorem F_SLcharAt : zMS M_SLcharAt 2 := ⟨⟨zTT_in (i := 627) (by decide +kernel) rfl, zTT_in (i := 149) (by decide +kernel) rfl, ⟨by decide, by decide, by decide +kernel⟩, by decide⟩, zTT_in (i := 626) (by decide +kernel) rfl⟩
def M_ScheckIndex : zM := (⟨"java/lang/String", "checkIndex", "(II)V"⟩, prog_21_method_155_code, 2, none, [(0, .iload_n 0, 1), (1, .iload_n 1, 1), (2, .getstatic 1053, 3), (5, .invokestatic 1059, 3), (8, .pop, 1), (9, .return_, 1)])
theorem T_ScheckIndex : zT M_ScheckIndex := zT_of (by decide +kernel)
theorem F_ScheckIndex : zMS M_ScheckIndex 2 := ⟨⟨zTT_in (i := 630) (by decide +kernel) rfl, zTT_in (i := 148) (by decide +kernel) rfl, ⟨by decide, by decide, by decide +kernel⟩, by decide⟩, zTT_in (i := 629) (by decide +kernel) rfl⟩
def M_SPcheckIndex : zM := (⟨"jdk/internal/util/Preconditions", "checkIndex", "(IILjava/util/function/BiFunction;)I"⟩, prog_29_method_11_code, 3, (some .int), [(0, .iload_n 0, 1), (1, .ifCond .lt 8, 3), (4, .iload_n 0, 1), (5, .iload_n 1, 1), (6, .if_icmp .lt 10, 3), (9, .aload_n 2, 1), (10, .iload_n 0, 1), (11, .iload_n 1, 1), (12, .invokestatic 95, 3), (15, .athrow, 1), (16, .iload_n 0, 1), (17, .ireturn, 1)])
theorem T_SPcheckIndex : zT M_SPcheckIndex := zT_of (by decide +kernel)
theorem F_SPcheckIndex : zMS M_SPcheckIndex 3 := ⟨⟨zTT_in (i := 635) (by decide +kernel) rfl, zTT_in (i := 150) (by decide +kernel) rfl, ⟨by decide, by decide, by decide +kernel⟩, by decide⟩, zTT_in (i := 634) (by decide +kernel) rfl⟩
theorem zfl_S_9 : Cond.fieldLink "java/lang/String" 9 "java/lang/String" "value" "[B" ∈ zTT := zTT_in (i := 2033) (by decide +kernel) rfl
theorem zfl_S_15 : Cond.fieldLink "java/lang/String" 15 "java/lang/String" "code\x72" "B" ∈ zTT := zTT_in (i := 2034) (by decide +kernel) rfl
theorem zfl_S_38 : Cond.fieldLink "java/lang/String" 38 "java/lang/String" "COMPACT_STRINGS" "Z" ∈ zTT := zTT_in (i := 615) (by decide +kernel) rfl
theorem zfl_S_1053 : Cond.fieldLink "java/lang/String" 1053 "jdk/internal/util/Preconditions" "SIOOBE_FORMATTER" "Ljava/util/function/BiFunction;" ∈ zTT := zTT_in (i := 631) (by decide +kernel) rfl
theorem zml_Scoder : Cond.methodLink "java/lang/String" 335 M_Scoder.1 ∈ zTT := zTT_in (i := 611) (by decide +kernel) rfl
theorem zml_SisLatin1 : Cond.methodLink "java/lang/String" 492 M_SisLatin1.1 ∈ zTT := zTT_in (i := 621) (by decide +kernel) rfl
theorem zml_SLcharAt : Cond.methodLink "java/lang/String" 495 M_SLcharAt.1 ∈ zTT := zTT_in (i := 625) (by decide +kernel) rfl
theorem zml_ScheckIndex : Cond.methodLink "java/lang/StringLatin1" 9 M_ScheckIndex.1 ∈ zTT := zTT_in (i := 628) (by decide +kernel) rfl
theorem zml_SPcheckIndex : Cond.methodLink "java/lang/String" 1059 M_SPcheckIndex.1 ∈ zTT := zTT_in (i := 633) (by decide +kernel) rfl
/-! a call, over the machine's own judgement, in any room -/
def zPv (X : zX) (w : zW) (σ : zS) (vs : List Value) : Array Value → State → Prop := va_Pc vs (zB X w σ)
section ZWC
variable {X : zX} {w : zW} {p : Program} {e : Env} {R : Room} {s : State} {m : MethodId} {args : Array Value} {below : List Frame} {meth : Method} {c : Code} {H : Heap} {locs : List Loc} {cells slots : Nat} {Q : State → Prop} {pc : Nat} {ls : Array Slot} {rest : List Value} {own : String} {cc : ByteArray} {nL : Nat} {M' : zM} {ix na d : Nat} {σ : zS} {o : Option Value × zS}
theorem zW_run {st0 : List Value} {a : Array Value} (hr : va_Run p X.1 e R s m args below meth c H locs cells slots 0 0 (F0 m pc ls st0) rest (zQc X w o a) (zA X w))
    (kk : ∀ (H1 : Heap) (L : List Loc), va_P X.2.1 vwCl (zw X w o.2) H1 → H.size ≤ H1.size → (∀ q : Nat, q < H.size → ¬ zA X w q → H1[q]? = H[q]?) → (∀ l ∈ L, zA X w l.base) → W p X.1 e R s m args below meth c H1 (locs ++ L) cells slots Q (F0 m (pc + 3) ls ((o.1.map (zv X)).toList ++ rest))) : W p X.1 e R s m args below meth c H locs cells slots Q (F0 m pc ls st0) := by
  intro T hT Xs
  obtain ⟨v, st₀, t, T', L, h0, X', hL, e1, e2, ⟨⟨hv, hB⟩, hz, hk⟩, stp⟩ := hr T hT Xs
  cases hv
  rw [h0] at hz hk
  obtain ⟨t2, a1, b1⟩ := kk T'.heap L (by rw [e1]; exact hB.1) (by rw [e1]; exact hz) (fun q h1 h2 => by rw [e1]; exact hk q h1 h2) (fun l hl => hL l hl) T' rfl X'
  exact ⟨t2, stp t2 a1, b1⟩
theorem zW_callV {a : Nat} {As : List Value} (hx : p.tables.exec = Jvm.exec) (hb : c.code = cc) (hml : c.maxLocals = nL) (hown : s.vm.findClass own = some m.cls) (hts : ∀ w ∈ zTT, w.before args s = true) (hdg : decode cc pc = .ok (.invokevirtual ix, 3)) (hlk : Cond.methodLink own ix M'.1 ∈ zTT) (hm : zMV M' na) (hR : zR R d)
    (hC : zCN X w d M' (.ref a :: As) σ o) (hrec : ∃ cell : Cell, H[za X a]? = some cell ∧ cell.vm.isStatics = false ∧ s.vm.findClass M'.1.cls = some cell.cls) (hBU : ∀ U : State, U.heap = H → s.WarmedH U.vm → zB X w σ U) (hlen : As.length = na) (hsz : ls.size = nL) (hst : (rest.map fun v => v.category).sum ≤ 8) (hf : cells ≤ R.cells ∧ slots ≤ R.slots)
    (kk : ∀ (H1 : Heap) (L : List Loc), va_P X.2.1 vwCl (zw X w o.2) H1 → H.size ≤ H1.size → (∀ q : Nat, q < H.size → ¬ zA X w q → H1[q]? = H[q]?) → (∀ l ∈ L, zA X w l.base) → W p X.1 e R s m args below meth c H1 (locs ++ L) cells slots Q (F0 m (pc + 3) ls ((o.1.map (zv X)).toList ++ rest))) : W p X.1 e R s m args below meth c H locs cells slots Q (F0 m pc ls ((As.map (zv X)).reverse ++ .ref (za X a) :: rest)) := by
  obtain ⟨⟨m1, m2, m3, m4⟩, m5, m6⟩ := hm
  have hG : GoodIn zTT (wsV own ix M'.1.cls M'.1 (Cond.code M'.1 M'.2.1 M'.2.2.1 M'.2.2.2.1 :: zTT)) := by
    intro v hv
    unfold wsV at hv
    rcases List.mem_append.mp hv with hv | hv
    · have : v ∈ zTT := by
        simp only [List.mem_cons, List.not_mem_nil, or_false] at hv
        rcases hv with rfl | rfl | rfl | rfl
        · exact hlk
        · exact m5
        · exact m6
        · exact m2
      exact ⟨this, zTT_good this⟩
    · exact zGood m1 v hv
  have hR2 : (zrm d).frames + 1 ≤ R.frames ∧ 8 + (M'.2.2.1 + 11) + (zrm d).locals ≤ R.locals := ⟨hR.1, by have := hR.2; show 8 + (M'.2.2.1 + 11) + 40 * d ≤ R.locals; omega⟩
  have hrun := va_runV (p := p) (e := e) (below := below) (meth := meth) (H := H) (locs := locs) (cells := cells) (slots := slots) (As := As.map (zv X)) (rest := rest) (b := za X a) (g := F0 m pc ls ((As.map (zv X)).reverse ++ .ref (za X a) :: rest)) ⟨hx, hb, hml, hown, hts⟩ hC (cwV na hts hG rfl rfl rfl ⟨rfl, m3⟩ hR2)
    ⟨zB_blind _, hrec, fun U hU hW => ⟨rfl, hBU U hU hW⟩⟩ rfl (by simpa using hlen) hsz rfl (by show 2 * 0 + _ ≤ 8; omega) hdg ⟨by omega, by omega⟩
  exact zW_run hrun kk
theorem zW_callS (hx : p.tables.exec = Jvm.exec) (hb : c.code = cc) (hml : c.maxLocals = nL) (hown : s.vm.findClass own = some m.cls) (hts : ∀ w ∈ zTT, w.before args s = true) (hdg : decode cc pc = .ok (.invokestatic ix, 3)) (hlk : Cond.methodLink own ix M'.1 ∈ zTT) (hm : zMS M' na) (hR : zR R d) {Av : List Value}
    (hC : Met X.1 M'.1 (Cond.code M'.1 M'.2.1 M'.2.2.1 M'.2.2.2.1 :: zTT) (zrm d) (va_Pc Av (zB X w σ)) (zQc X w o) 0 0 (zA X w)) (hBU : ∀ U : State, U.heap = H → s.WarmedH U.vm → zB X w σ U) (hlen : Av.length = na) (hsz : ls.size = nL) (hst : (rest.map fun v => v.category).sum ≤ 8) (hf : cells ≤ R.cells ∧ slots ≤ R.slots)
    (kk : ∀ (H1 : Heap) (L : List Loc), va_P X.2.1 vwCl (zw X w o.2) H1 → H.size ≤ H1.size → (∀ q : Nat, q < H.size → ¬ zA X w q → H1[q]? = H[q]?) → (∀ l ∈ L, zA X w l.base) → W p X.1 e R s m args below meth c H1 (locs ++ L) cells slots Q (F0 m (pc + 3) ls ((o.1.map (zv X)).toList ++ rest))) : W p X.1 e R s m args below meth c H locs cells slots Q (F0 m pc ls (Av.reverse ++ rest)) := by
  obtain ⟨⟨m1, m2, m3, m4⟩, m5⟩ := hm
  have hG : GoodIn zTT (va_wsS own ix M'.1 (Cond.code M'.1 M'.2.1 M'.2.2.1 M'.2.2.2.1 :: zTT)) := by
    intro v hv
    unfold va_wsS at hv
    rcases List.mem_append.mp hv with hv | hv
    · have : v ∈ zTT := by
        simp only [List.mem_cons, List.not_mem_nil, or_false] at hv
        rcases hv with rfl | rfl | rfl
        · exact hlk
        · exact m5
        · exact m2
      exact ⟨this, zTT_good this⟩
    · exact zGood m1 v hv
  have hR2 : (zrm d).frames + 1 ≤ R.frames ∧ 8 + (M'.2.2.1 + 11) + (zrm d).locals ≤ R.locals := ⟨hR.1, by have := hR.2; show 8 + (M'.2.2.1 + 11) + 40 * d ≤ R.locals; omega⟩
  have hrun := va_runS (p := p) (e := e) (below := below) (meth := meth) (H := H) (locs := locs) (cells := cells) (slots := slots) (As := Av) (rest := rest) (g := F0 m pc ls (Av.reverse ++ rest)) ⟨hx, hb, hml, hown, hts⟩ hC (va_cwS na hts hG rfl rfl rfl m3 hR2)
    ⟨zB_blind _, fun U hU hW => ⟨rfl, hBU U hU hW⟩⟩ rfl hlen hsz rfl (by show 2 * 0 + _ ≤ 8; omega) hdg ⟨by omega, by omega⟩
  exact zW_run hrun kk
end ZWC
theorem zS_ext {A : Nat → Prop} {H0 H H1 : Heap} {locs L : List Loc} (hS : va_S A H0 H locs) (h1 : H.size ≤ H1.size) (h2 : ∀ q : Nat, q < H.size → ¬ A q → H1[q]? = H[q]?) (h3 : ∀ l ∈ L, A l.base) : va_S A H0 H1 (locs ++ L) :=
  ⟨Nat.le_trans hS.1 h1, fun q g1 g2 => (h2 q (Nat.lt_of_lt_of_le g1 hS.1) g2).trans (hS.2.1 q g1 g2), fun l hl => (List.mem_append.mp hl).elim (hS.2.2 l) (h3 l)⟩
/-- a method over the machine's judgement, with any arguments -/
theorem zW_entry {X : zX} {w : zW} {d : Nat} {M : zM} {σ : zS} {o : Option Value × zS} (av : List Value) (hy : plainName M.1.cls = true) (hT : zT M) (hn : (lg_sl av).length ≤ M.2.2.1)
    (h : ∀ (p : Program) (e : Env) (s : State) (m : MethodId) (args : Array Value) (below : List Frame) (meth : Method) (c : Code), zC X w M p s m args meth c → va_P X.2.1 vwCl (zw X w σ) s.heap → ∀ ls : Array Slot, lv_has ls M.2.2.1 (lv_args 0 av) → W p X.1 e (zrm d) s m args below meth c s.heap [] 0 0 (MQ below (zQc X w o) args s 0 0 (zA X w)) (F0 m 0 ls [])) :
    Met X.1 M.1 (Cond.code M.1 M.2.1 M.2.2.1 M.2.2.2.1 :: zTT) (zrm d) (va_Pc av (zB X w σ)) (zQc X w o) 0 0 (zA X w) := by
  refine Met.ofW (cc := M.2.1) (maxL := M.2.2.1) (ret := M.2.2.2.1) hy rfl ?_
  intro p e s m args below meth c s₁ B hml hv
  obtain ⟨rfl, hP, hK, hok, hV⟩ := hv
  have hts := atoms_spec (ws := Cond.code M.1 M.2.1 M.2.2.1 M.2.2.2.1 :: zTT) B.pre
  have C : zC X w M p s m av.toArray meth c := ⟨B.exec, B.bytes, hml, B.returns, B.notSynchronized, findClass_of_methodNamed B.named, fun w hw => hts w (List.mem_cons_of_mem _ hw), hK, hok, hV, hT⟩
  rw [lg_entry_eq]
  exact h p e s m _ below meth c C hP _ (lv_entry av hn)
theorem zadK (X : zX) (j : Nat) : za X (1000 + j) = X.2.2.2.2.1 j := by
  unfold za
  rw [if_neg (by omega), Nat.add_sub_cancel_left]
section ZSTRS
variable {X : zX} {w : zW} {σ : zS}
theorem c_Scoder (d j : Nat) (hj : j < 18) : zCN X w d M_Scoder [.ref (1000 + j)] σ (some (.int 0), σ) := by
  show Met X.1 M_Scoder.1 _ _ (va_Pc [.ref (za X (1000 + j))] _) _ _ _ _
  rw [zadK]
  refine zW_entry [.ref (X.2.2.2.2.1 j)] (by decide +kernel) T_Scoder (Nat.le_of_ble_eq_true rfl) ?_
  intro p e s m args below meth c C hP ls hl
  have hS : va_S (zA X w) s.heap s.heap [] := va_S.rf
  refine va_gets C.hx C.hb C.hV.2.2.1 hS C.hown (C.hts _ zfl_S_38) (fun _ h => h) (C.dec (i := 0) rfl) ?_
  refine lv_if_eq (tgt := 13) C.hx C.hb (C.dec (i := 1) rfl) (by decide) (fun q => absurd q (by decide)) (fun _ => ?_)
  refine lv_aload_n C.hx C.hb (C.dec (i := 2) rfl) rfl (lv_at hl 0 rfl) ?_
  refine vk_getf C.hx C.hb (C.hV.1.1 j hj).2.1 hS C.hown (C.hts _ zfl_S_15) (fun _ h => h) (C.dec (i := 3) rfl) ?_
  refine lv_goto (tgt := 14) C.hx C.hb (C.dec (i := 4) rfl) (by decide) ?_
  exact W.zret (v := 0) (ty := .byte) C.hx C.hb C.hr rfl (fun t ht hW => ⟨⟨rfl, zB_end C hP hS t ht hW⟩, hS.F ht⟩) hS.2.2 (C.dec (i := 6) rfl) C.hlk
theorem c_SisLatin1 (d j : Nat) (hj : j < 18) : zCN X w d M_SisLatin1 [.ref (1000 + j)] σ (some (.int 1), σ) := by
  show Met X.1 M_SisLatin1.1 _ _ (va_Pc [.ref (za X (1000 + j))] _) _ _ _ _
  rw [zadK]
  refine zW_entry [.ref (X.2.2.2.2.1 j)] (by decide +kernel) T_SisLatin1 (Nat.le_of_ble_eq_true rfl) ?_
  intro p e s m args below meth c C hP ls hl
  have hS : va_S (zA X w) s.heap s.heap [] := va_S.rf
  refine va_gets C.hx C.hb C.hV.2.2.1 hS C.hown (C.hts _ zfl_S_38) (fun _ h => h) (C.dec (i := 0) rfl) ?_
  refine lv_if_eq (tgt := 17) C.hx C.hb (C.dec (i := 1) rfl) (by decide) (fun q => absurd q (by decide)) (fun _ => ?_)
  refine lv_aload_n C.hx C.hb (C.dec (i := 2) rfl) rfl (lv_at hl 0 rfl) ?_
  refine vk_getf C.hx C.hb (C.hV.1.1 j hj).2.1 hS C.hown (C.hts _ zfl_S_15) (fun _ h => h) (C.dec (i := 3) rfl) ?_
  refine lv_if_ne (tgt := 17) C.hx C.hb (C.dec (i := 4) rfl) (by decide) (fun q => absurd rfl q) (fun _ => ?_)
  refine lv_iconst (v := 1) C.hx C.hb (C.dec (i := 5) rfl) (by decide) ?_
  refine lv_goto (tgt := 18) C.hx C.hb (C.dec (i := 6) rfl) (by decide) ?_
  exact W.zret (v := 1) (ty := .boolean) C.hx C.hb C.hr rfl (fun t ht hW => ⟨⟨rfl, zB_end C hP hS t ht hW⟩, hS.F ht⟩) hS.2.2 (C.dec (i := 8) rfl) C.hlk
theorem c_Slength (d j : Nat) (hj : j < 18) : zCN X w (d + 1) M_Slength [.ref (1000 + j)] σ (some (.int (zslen (1000 + j))), σ) := by
  show Met X.1 M_Slength.1 _ _ (va_Pc [.ref (za X (1000 + j))] _) _ _ _ _
  rw [zadK]
  refine zW_entry [.ref (X.2.2.2.2.1 j)] (by decide +kernel) T_Slength (Nat.le_of_ble_eq_true rfl) ?_
  intro p e s m args below meth c C hP ls hl
  have hS : va_S (zA X w) s.heap s.heap [] := va_S.rf
  refine lv_aload_n C.hx C.hb (C.dec (i := 0) rfl) rfl (lv_at hl 0 rfl) ?_
  refine vk_getf C.hx C.hb (C.hV.1.1 j hj).2.2.1 hS C.hown (C.hts _ zfl_S_9) (fun _ h => h) (C.dec (i := 1) rfl) ?_
  refine va_tlen C.hx C.hb (C.hV.1.1 j hj).2.2.2 hS rfl (C.dec (i := 2) rfl) ?_
  refine lv_aload_n C.hx C.hb (C.dec (i := 3) rfl) rfl (lv_at hl 0 rfl) ?_
  have hC := c_Scoder (X := X) (w := w) (σ := σ) d j hj
  have hrec := vk_recv C.hV.1 hj hS
  rw [← zadK] at hrec ⊢
  refine zW_callV (As := []) (a := 1000 + j) C.hx C.hb C.hml C.hown C.hts (C.dec (i := 4) rfl) zml_Scoder F_Scoder (zR_rm (Nat.le_refl _)) hC hrec (fun U hU hW => zB_end C hP hS U hU hW) rfl hl.1 (Nat.le_of_ble_eq_true rfl) ⟨Nat.zero_le _, Nat.zero_le _⟩ (fun H1 L hP1 z1 k1 l1 => ?_)
  have hS1 := zS_ext hS z1 k1 l1
  refine lv_ishr C.hx C.hb (C.dec (i := 5) rfl) ?_
  have e1 : Int32.ofNat (zlen.getD j 0) >>> ((0 : Int32) &&& 31) = zslen (1000 + j) := by
    rw [sb_shr0]
    unfold zslen
    rw [Nat.add_sub_cancel_left]
  rw [e1]
  exact W.iret (v := zslen (1000 + j)) C.hx C.hb C.hr (fun t ht hW => ⟨⟨rfl, zB_end C hP1 hS1 t ht hW⟩, hS1.F ht⟩) hS1.2.2 (C.dec (i := 6) rfl) C.hlk
theorem c_SPcheckIndex (d : Nat) (x n : Int32) (v : Value) (hv : v.isRef = true ∧ v.category = 1) (h0 : 0 ≤ x.toInt) (h1 : x.toInt < n.toInt) : Met X.1 M_SPcheckIndex.1 (Cond.code M_SPcheckIndex.1 M_SPcheckIndex.2.1 M_SPcheckIndex.2.2.1 M_SPcheckIndex.2.2.2.1 :: zTT) (zrm d) (va_Pc [.int x, .int n, v] (zB X w σ)) (zQc X w (some (.int x), σ)) 0 0 (zA X w) := by
  have e3 : (lg_sl [Value.int x, Value.int n, v]).length = 3 := by simp [lg_sl, hv.2, show (Value.int x).category = 1 from rfl, show (Value.int n).category = 1 from rfl]
  refine zW_entry [.int x, .int n, v] (by decide +kernel) T_SPcheckIndex (by rw [e3]; decide) ?_
  intro p e s m args below meth c C hP ls hl
  have hS : va_S (zA X w) s.heap s.heap [] := va_S.rf
  have e0 : ls[0]? = some (.val (.int x)) := lv_at hl 0 rfl
  have e1 : ls[1]? = some (.val (.int n)) := lv_at hl 1 rfl
  refine lv_iload_n C.hx C.hb (C.dec (i := 0) rfl) rfl e0 ?_
  refine lv_if_lt (tgt := 9) C.hx C.hb (C.dec (i := 1) rfl) (by decide) (fun q => absurd (Int32.lt_iff_toInt_lt.mp q) (by simpa using h0)) (fun _ => ?_)
  refine lv_iload_n C.hx C.hb (C.dec (i := 2) rfl) rfl e0 ?_
  refine lv_iload_n C.hx C.hb (C.dec (i := 3) rfl) rfl e1 ?_
  refine lv_icmp_lt (tgt := 16) C.hx C.hb (C.dec (i := 4) rfl) (by decide) (fun _ => ?_) (fun q => absurd (Int32.lt_iff_toInt_lt.mpr h1) q)
  refine lv_iload_n C.hx C.hb (C.dec (i := 10) rfl) rfl e0 ?_
  exact W.iret (v := x) C.hx C.hb C.hr (fun t ht hW => ⟨⟨rfl, zB_end C hP hS t ht hW⟩, hS.F ht⟩) hS.2.2 (C.dec (i := 11) rfl) C.hlk
theorem c_ScheckIndex (d : Nat) (x n : Int32) (h0 : 0 ≤ x.toInt) (h1 : x.toInt < n.toInt) : Met X.1 M_ScheckIndex.1 (Cond.code M_ScheckIndex.1 M_ScheckIndex.2.1 M_ScheckIndex.2.2.1 M_ScheckIndex.2.2.2.1 :: zTT) (zrm (d + 1)) (va_Pc [.int x, .int n] (zB X w σ)) (zQc X w (none, σ)) 0 0 (zA X w) := by
  refine zW_entry [.int x, .int n] (by decide +kernel) T_ScheckIndex (Nat.le_of_ble_eq_true rfl) ?_
  intro p e s m args below meth c C hP ls hl
  have hS : va_S (zA X w) s.heap s.heap [] := va_S.rf
  refine lv_iload_n C.hx C.hb (C.dec (i := 0) rfl) rfl (lv_at hl 0 rfl) ?_
  refine lv_iload_n C.hx C.hb (C.dec (i := 1) rfl) rfl (lv_at hl 1 rfl) ?_
  have key : ∀ v : Value, v.isRef = true ∧ v.category = 1 → W p X.1 e (zrm (d + 1)) s m args below meth c s.heap [] 0 0 (MQ below (zQc X w (none, σ)) args s 0 0 (zA X w)) (F0 m 5 ls [v, .int n, .int x]) := by
    intro v hv
    refine zW_callS (Av := [.int x, .int n, v]) C.hx C.hb C.hml C.hown C.hts (C.dec (i := 3) rfl) zml_SPcheckIndex F_SPcheckIndex (zR_rm (Nat.le_refl _)) (c_SPcheckIndex d x n v hv h0 h1) (fun U hU hW => zB_end C hP hS U hU hW) rfl hl.1 (Nat.le_of_ble_eq_true rfl) ⟨Nat.zero_le _, Nat.zero_le _⟩ (fun H1 L hP1 z1 k1 l1 => ?_)
    have hS1 := zS_ext hS z1 k1 l1
    refine lv_pop C.hx C.hb (C.dec (i := 4) rfl) rfl ?_
    exact W.vret C.hx C.hb C.hr (fun t ht hW => ⟨⟨rfl, zB_end C hP1 hS1 t ht hW⟩, hS1.F ht⟩) hS1.2.2 (C.dec (i := 5) rfl) C.hlk
  rcases C.hV.2.2.2.1 with hz | ⟨t, hz⟩
  · exact va_gets C.hx C.hb hz hS C.hown (C.hts _ zfl_S_1053) (fun _ h => h) (C.dec (i := 2) rfl) (key .null ⟨rfl, rfl⟩)
  · exact va_gets C.hx C.hb hz hS C.hown (C.hts _ zfl_S_1053) (fun _ h => h) (C.dec (i := 2) rfl) (key (.ref t) ⟨rfl, rfl⟩)
theorem zbyt_ok : ∀ i, i < 18 → ∀ j, j < zlen.getD i 0 → ((((zbyt.getD i []).getD j 0) &&& 255).toUInt32 % 65536).toInt32 = (zbyt.getD i []).getD j 0 := by decide +kernel
theorem zlen_ok : ∀ i, i < 18 → zlen.getD i 0 < 100 := by decide +kernel
theorem c_SLcharAt (d j : Nat) (hj : j < 18) (x : Int32) (h0 : 0 ≤ x.toInt) (h1 : x.toInt < zlen.getD j 0) : Met X.1 M_SLcharAt.1 (Cond.code M_SLcharAt.1 M_SLcharAt.2.1 M_SLcharAt.2.2.1 M_SLcharAt.2.2.2.1 :: zTT) (zrm (d + 2)) (va_Pc [.ref (X.2.2.2.2.2 j), .int x] (zB X w σ)) (zQc X w (some (.int (zsch (1000 + j) x)), σ)) 0 0 (zA X w) := by
  have hl9 := zlen_ok j hj
  have hn : x.toInt < (Int32.ofNat (zlen.getD j 0)).toInt := by
    rw [show (Int32.ofNat (zlen.getD j 0)).toInt = ((zlen.getD j 0 : Nat) : Int) from nI_toInt (by omega)]
    exact h1
  refine zW_entry [.ref (X.2.2.2.2.2 j), .int x] (by decide +kernel) T_SLcharAt (Nat.le_of_ble_eq_true rfl) ?_
  intro p e s m args below meth c C hP ls hl
  have hS : va_S (zA X w) s.heap s.heap [] := va_S.rf
  refine lv_iload_n C.hx C.hb (C.dec (i := 0) rfl) rfl (lv_at hl 1 rfl) ?_
  refine lv_aload_n C.hx C.hb (C.dec (i := 1) rfl) rfl (lv_at hl 0 rfl) ?_
  refine va_tlen C.hx C.hb (C.hV.1.1 j hj).2.2.2 hS rfl (C.dec (i := 2) rfl) ?_
  refine zW_callS (Av := [.int x, .int (Int32.ofNat (zlen.getD j 0))]) C.hx C.hb C.hml C.hown C.hts (C.dec (i := 3) rfl) zml_ScheckIndex F_ScheckIndex (zR_rm (Nat.le_refl _)) (c_ScheckIndex d x _ h0 hn) (fun U hU hW => zB_end C hP hS U hU hW) rfl hl.1 (Nat.le_of_ble_eq_true rfl) ⟨Nat.zero_le _, Nat.zero_le _⟩ (fun H1 L hP1 z1 k1 l1 => ?_)
  have hS1 := zS_ext hS z1 k1 l1
  refine lv_aload_n C.hx C.hb (C.dec (i := 4) rfl) rfl (lv_at hl 0 rfl) ?_
  refine lv_iload_n C.hx C.hb (C.dec (i := 5) rfl) rfl (lv_at hl 1 rfl) ?_
  refine va_tb C.hx C.hb (C.hV.1.1 j hj).2.2.2 hS1 (vp_in_iff.mpr ⟨h0, h1⟩) rfl (C.dec (i := 6) rfl) ?_
  refine lv_sipush (v := 255) C.hx C.hb (C.dec (i := 7) rfl) (by decide) ?_
  refine lv_iand C.hx C.hb (C.dec (i := 8) rfl) ?_
  refine lv_i2c C.hx C.hb (C.dec (i := 9) rfl) rfl ?_
  have e1 : ((((zbyt.getD j []).getD x.toNatClampNeg 0) &&& 255).toUInt32 % 65536).toInt32 = zsch (1000 + j) x := by
    have e2 : x.toNatClampNeg < zlen.getD j 0 := by
      have : (x.toNatClampNeg : Int) = x.toInt := by
        show ((x.toInt.toNat : Nat) : Int) = _
        omega
      omega
    rw [zbyt_ok j hj _ e2]
    unfold zsch
    rw [Nat.add_sub_cancel_left]
  rw [e1]
  have e3 : narrow .char (.int (zsch (1000 + j) x)) = .int (zsch (1000 + j) x) := by
    rw [← e1]
    exact pk_nc _
  exact W.zret (v := zsch (1000 + j) x) (ty := .char) C.hx C.hb C.hr e3 (fun t ht hW => ⟨⟨rfl, zB_end C hP1 hS1 t ht hW⟩, hS1.F ht⟩) hS1.2.2 (C.dec (i := 10) rfl) C.hlk
theorem c_ScharAt (d j : Nat) (hj : j < 18) (x : Int32) (h0 : 0 ≤ x.toInt) (h1 : x.toInt < zlen.getD j 0) : zCN X w (d + 3) M_ScharAt [.ref (1000 + j), .int x] σ (some (.int (zsch (1000 + j) x)), σ) := by
  show Met X.1 M_ScharAt.1 _ _ (va_Pc [.ref (za X (1000 + j)), .int x] _) _ _ _ _
  rw [zadK]
  refine zW_entry [.ref (X.2.2.2.2.1 j), .int x] (by decide +kernel) T_ScharAt (Nat.le_of_ble_eq_true rfl) ?_
  intro p e s m args below meth c C hP ls hl
  have hS : va_S (zA X w) s.heap s.heap [] := va_S.rf
  refine lv_aload_n C.hx C.hb (C.dec (i := 0) rfl) rfl (lv_at hl 0 rfl) ?_
  have hrec := vk_recv C.hV.1 hj hS
  rw [← zadK] at hrec ⊢
  refine zW_callV (As := []) (a := 1000 + j) C.hx C.hb C.hml C.hown C.hts (C.dec (i := 1) rfl) zml_SisLatin1 F_SisLatin1 (zR_rm (Nat.le_refl _)) (c_SisLatin1 (d + 2) j hj) hrec (fun U hU hW => zB_end C hP hS U hU hW) rfl hl.1 (Nat.le_of_ble_eq_true rfl) ⟨Nat.zero_le _, Nat.zero_le _⟩ (fun H1 L hP1 z1 k1 l1 => ?_)
  have hS1 := zS_ext hS z1 k1 l1
  refine lv_if_eq (tgt := 16) C.hx C.hb (C.dec (i := 2) rfl) (by decide) (fun q => absurd q (by decide)) (fun _ => ?_)
  refine lv_aload_n C.hx C.hb (C.dec (i := 3) rfl) rfl (lv_at hl 0 rfl) ?_
  refine vk_getf C.hx C.hb (C.hV.1.1 j hj).2.2.1 hS1 C.hown (C.hts _ zfl_S_9) (fun _ h => h) (C.dec (i := 4) rfl) ?_
  refine lv_iload_n C.hx C.hb (C.dec (i := 5) rfl) rfl (lv_at hl 1 rfl) ?_
  refine zW_callS (Av := [.ref (X.2.2.2.2.2 j), .int x]) C.hx C.hb C.hml C.hown C.hts (C.dec (i := 6) rfl) zml_SLcharAt F_SLcharAt (zR_rm (Nat.le_refl _)) (c_SLcharAt d j hj x h0 h1) (fun U hU hW => zB_end C hP1 hS1 U hU hW) rfl hl.1 (Nat.le_of_ble_eq_true rfl) ⟨Nat.zero_le _, Nat.zero_le _⟩ (fun H2 L2 hP2 z2 k2 l2 => ?_)
  have hS2 := zS_ext hS1 z2 k2 l2
  have e3 : narrow .char (.int (zsch (1000 + j) x)) = .int (zsch (1000 + j) x) := by
    have e2 : x.toNatClampNeg < zlen.getD j 0 := by
      have : (x.toNatClampNeg : Int) = x.toInt := by
        show ((x.toInt.toNat : Nat) : Int) = _
        omega
      omega
    have e4 : zsch (1000 + j) x = ((((zbyt.getD j []).getD x.toNatClampNeg 0) &&& 255).toUInt32 % 65536).toInt32 := by
      rw [zbyt_ok j hj _ e2]
      unfold zsch
      rw [Nat.add_sub_cancel_left]
    rw [e4]
    exact pk_nc _
  exact W.zret (v := zsch (1000 + j) x) (ty := .char) C.hx C.hb C.hr e3 (fun t ht hW => ⟨⟨rfl, zB_end C hP2 hS2 t ht hW⟩, hS2.F ht⟩) hS2.2.2 (C.dec (i := 7) rfl) C.hlk
end ZSTRS
section ZSTR2
variable {X : zX} {w : zW} {R : Room} {M : zM} {ρ : Type} {Z : ρ → zS → zZt} {pc : Nat} {L : List (Option Value)} {st : List Value} {σ : zS} {k : Option (ρ × zS)}
theorem z_strlen (i n : Nat) {a ix d : Nat} (hd : M.2.2.2.2[i]? = some (pc, .invokevirtual ix, 3)) (hn : pc + 3 = n) (hlk : Cond.methodLink M.1.cls ix ⟨"java/lang/String", "length", "()I"⟩ ∈ zTT) (hR : zR R (d + 7)) (ha : 1000 ≤ a ∧ a < 1018) (hLn : L.length = M.2.2.1) (hst : (st.map fun v => v.category).sum ≤ 8) (h : zK X w R M Z n L (.int (zslen a) :: st) σ k) : zK X w R M Z pc L (.ref a :: st) σ k := by
  obtain ⟨j, rfl⟩ : ∃ j, a = 1000 + j := ⟨a - 1000, by omega⟩
  subst hn
  intro r σ' hk p e s m args below meth c C H locs ls hP hS hl
  have hrec := vk_recv C.hV.1 (show j < 18 by omega) hS
  rw [← zadK] at hrec
  refine zW_callV (As := []) (a := 1000 + j) C.hx C.hb C.hml C.hown C.hts (C.dec hd) hlk F_Slength hR (c_Slength (d + 6) j (by omega)) hrec (fun U hU hW => zB_end C hP hS U hU hW) rfl (by rw [hl.1]; simpa using hLn) (by rw [zcat_map]; exact hst) ⟨Nat.zero_le _, Nat.zero_le _⟩ (fun H1 L1 hP1 z1 k1 l1 => ?_)
  exact h r σ' hk p e s m args below meth c C H1 (locs ++ L1) ls hP1 (zS_ext hS z1 k1 l1) hl
theorem z_charAt (i n : Nat) {a ix d : Nat} {x : Int32} (hd : M.2.2.2.2[i]? = some (pc, .invokevirtual ix, 3)) (hn : pc + 3 = n) (hlk : Cond.methodLink M.1.cls ix ⟨"java/lang/String", "charAt", "(I)C"⟩ ∈ zTT) (hR : zR R (d + 7)) (ha : (1000 ≤ a ∧ a < 1018) ∧ 0 ≤ x.toInt ∧ x.toInt < zlen.getD (a - 1000) 0) (hLn : L.length = M.2.2.1) (hst : (st.map fun v => v.category).sum ≤ 8) (h : zK X w R M Z n L (.int (zsch a x) :: st) σ k) : zK X w R M Z pc L (.int x :: .ref a :: st) σ k := by
  obtain ⟨ha, h0, h1⟩ := ha
  obtain ⟨j, rfl⟩ : ∃ j, a = 1000 + j := ⟨a - 1000, by omega⟩
  rw [Nat.add_sub_cancel_left] at h1
  subst hn
  intro r σ' hk p e s m args below meth c C H locs ls hP hS hl
  have hrec := vk_recv C.hV.1 (show j < 18 by omega) hS
  rw [← zadK] at hrec
  refine zW_callV (As := [.int x]) (a := 1000 + j) C.hx C.hb C.hml C.hown C.hts (C.dec hd) hlk F_ScharAt hR (c_ScharAt (d + 4) j (by omega) x h0 h1) hrec (fun U hU hW => zB_end C hP hS U hU hW) rfl (by rw [hl.1]; simpa using hLn) (by rw [zcat_map]; exact hst) ⟨Nat.zero_le _, Nat.zero_le _⟩ (fun H1 L1 hP1 z1 k1 l1 => ?_)
  exact h r σ' hk p e s m args below meth c C H1 (locs ++ L1) ls hP1 (zS_ext hS z1 k1 l1) hl
end ZSTR2
