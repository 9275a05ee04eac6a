
/-- the law's own led: out[0] becomes what comes; 1 if it is thrown -/
def yLled : MethodName := ⟨"PostScriptsLaw", "led", "(LPostScripts;I[J)I"⟩
def cLled : ByteArray := method_3_code
def wLled : Cond := .codeWith yLled cLled 4 (some .int) [(0, 9, 12, 13)]
theorem wLled_in : wLled ∈ zTT := zTT_in (i := 1228) (by decide +kernel) rfl
def zLtb : List (Nat × Instr × Nat) := [(0, .aload_n 2, 1), (1, .iconst 0, 1), (2, .aload_n 0, 1), (3, .iload_n 1, 1), (4, .invokevirtual 7, 3), (7, .i2l, 1), (8, .lastore, 1), (9, .goto 6, 3), (12, .astore_n 3, 1), (13, .iconst 1, 1), (14, .ireturn, 1), (15, .iconst 0, 1), (16, .ireturn, 1)]
theorem dLled : ∀ q ∈ zLtb, decode cLled q.1 = .ok q.2 := by decide +kernel
theorem zXu.at {X : zX} {w : zW} {s U : State} {H : Heap} {locs : List Loc} (h : zXu X w s) (hS : va_S (zA X w) s.heap H locs) (hU : U.heap = H) (hW : s.WarmedH U.vm) : zXu X w U :=
  ⟨zbad_warm hW h.1, by rw [hU]; exact (h.2.1.kept hS.2.1).moved hW.alike, by rw [hU]; exact (h.2.2.1.kept hS.2.1).moved hW.alike, h.2.2.2⟩
/-- what the law's led comes to: the answer, the cell out -/
def zLq (r : Option Int32) (g : Nat → Int64) : Int32 × (Nat → Int64) := match r with
  | some v => (0, vp_updL g 0 v.toInt64)
  | none => (1, g)
def zLb (X : zX) (cJ : ClassId) (ob : Nat) (σ : zS) (g : Nat → Int64) (U : State) : Prop := zB X WC σ U ∧ zXu X WC U ∧ U.heap[ob]? = some (vp_cell cJ (1, .inr (.inl g))) ∧ ArrOfT U cJ .long ∧ ¬ zA X WC ob
def zLf (X : zX) (ob : Nat) : Nat → Prop := fun q => zA X WC q ∨ q = ob
def zLQ (X : zX) (cJ : ClassId) (ob : Nat) (r : Option Int32) (σ : zS) (g : Nat → Int64) : Array Value → State → Outcome → State → Prop := fun _ st oc t =>
  oc = .returned (some (.int (zLq r g).1)) ∧ va_P X.2.1 vwCl (zw X WC σ) t.heap ∧ t.heap[ob]? = some (vp_cell cJ (1, .inr (.inl (zLq r g).2))) ∧ va_F (zLf X ob) st t
theorem z_ofWH {l : Launch} {y : MethodName} {ws ws' : List Cond} {rm : Room} {Pc : Array Value → State → Prop} {Qc : Array Value → State → Outcome → State → Prop} {mc ms : Nat} {free : Addr → Prop} {cc : ByteArray} {maxL : Nat} {ret : Option FieldType} {hh : List (Nat × Nat × Nat × Nat)}
    (hy : plainName y.cls = true) (hw : ws = Cond.codeWith y cc maxL ret hh :: ws')
    (body : ∀ p e s m args below meth c s₁, BodyLoose p l y (headSpec ws rm) cc maxL ret e s m args below meth c s₁ → c.maxLocals = maxL → Pc args s →
      W p l e (headSpec ws rm).room s m args below meth c s.heap [] 0 0 (MQ below Qc args s mc ms free) (entryFrame m args maxL)) : Met l y ws rm Pc Qc mc ms free := by
  refine MetFree.of_bodyS (code := cc) (maxLocals := maxL) (ret := ret) hy ?_ ?_
  · intro args s m h hn
    obtain ⟨m9, meth, c, hn9, h1, h2, h3, h4, -, h5, h6, -⟩ := Cond.codeWith_spec (atoms_spec (ws := ws) h _ (by rw [hw]; exact List.mem_cons_self))
    cases hn.symm.trans hn9
    exact ⟨meth, c, h1, h2, h3, h4, h5, h6⟩
  · intro p e s m args below meth c s₁ B hml hP _
    have hh0 : s₁.heap = s.heap := by rw [B.state]; rfl
    obtain ⟨t, a1, o, b1, b2, b3⟩ := body p e s m args below meth c s₁ B hml hP s₁ hh0 (Stand.of_body B)
    exact ⟨t, o, a1, b1, b2, b3⟩
theorem zBX_blind {X : zX} {w : zW} {σ : zS} (av : List Value) : FrameBlind (va_Pc av (fun U => zB X w σ U ∧ zXu X w U)) := fun a U g mk q =>
  ⟨q.1, ⟨q.2.1.1, va_K.moved (u := U) (U := U.calling g mk a) (Vm.Alike.refl U.vm) q.2.1.2.1, q.2.1.2.2.1, zV.warm (s := U) (U := U.calling g mk a) (State.WarmedH.refl U) q.2.1.2.2.2⟩, zXu.at (s := U) (U := U.calling g mk a) q.2.2 va_S.rf rfl (State.WarmedH.refl U)⟩
theorem zGV {own : String} {ix n : Nat} {M' : zM} (hlk : Cond.methodLink own ix M'.1 ∈ zTT) (hm : zMV M' n) : GoodIn zTT (wsV own ix M'.1.cls M'.1 (Cond.code M'.1 M'.2.1 M'.2.2.1 M'.2.2.2.1 :: zTT)) := by
  obtain ⟨⟨m1, m2, m3, m4⟩, m5, m6⟩ := hm
  intro v hv
  unfold wsV at hv
  rcases List.mem_append.mp hv with hv | hv
  · have : v ∈ zTT := by
      simp only [List.mem_cons, List.not_mem_nil, or_false] at hv
      rcases hv with rfl | rfl | rfl | rfl
      · exact hlk
      · exact m5
      · exact m6
      · exact m2
    exact ⟨this, zTT_good this⟩
  · exact zGood m1 v hv
theorem zR2n {M' : zM} {d a b a' b' : Nat} (m4 : M'.2.2.1 ≤ 21) (h : 1 ≤ d) : (zrn (d - 1) a b).frames + 1 ≤ (zrn d a' b').frames ∧ 8 + (M'.2.2.1 + 11) + (zrn (d - 1) a b).locals ≤ (zrn d a' b').locals := ⟨by show d - 1 + 1 ≤ d; omega, by show 8 + (M'.2.2.1 + 11) + 40 * (d - 1) ≤ 40 * d; omega⟩
theorem zml_Lled : Cond.methodLink "PostScriptsLaw" 7 M_X10_led.1 ∈ zTT := zTT_in (i := 1230) (by decide +kernel) rfl
theorem zcl_Lled : Cond.classLink "PostScriptsLaw" 13 zNSE ∈ zTT := zTT_in (i := 1229) (by decide +kernel) rfl
set_option maxHeartbeats 1000000 in
theorem c_Lled (X : zX) (cJ : ClassId) (d ob : Nat) (hd : 9 ≤ d) (x : Int32) (σ σ' : zS) (g : Nat → Int64) (r : Option Int32) (hf : f_X10_led 0 x σ = some (r, σ')) : Met X.1 yLled (wLled :: zTT) (zrn d 1 6) (va_Pc [.ref (za X 0), .int x, .ref ob] (zLb X cJ ob σ g)) (zLQ X cJ ob r σ' g) 1 6 (zLf X ob) := by
  refine z_ofWH (cc := cLled) (maxL := 4) (ret := some .int) (hh := [(0, 9, 12, 13)]) (by decide +kernel) rfl ?_
  intro p e s m args below meth c s₁ B hml hv
  obtain ⟨rfl, hB, hXu, hob, hAr, hna⟩ := hv
  have hts0 := atoms_spec (ws := wLled :: zTT) B.pre
  have hts : ∀ w ∈ zTT, w.before [.ref (za X 0), .int x, .ref ob].toArray s = true := fun w hw => hts0 w (List.mem_cons_of_mem _ hw)
  have htab : c.exceptionTable.toList = [] ++ ({ startPc := 0, endPc := 9, handlerPc := 12, catchType := 13 } : ExceptionTableEntry) :: [] := vx_table (x := yLled) B (hts0 _ List.mem_cons_self)
  have hown : s.vm.findClass "PostScriptsLaw" = some m.cls := findClass_of_methodNamed B.named
  have hx := B.exec
  have hb := B.bytes
  have hr := B.returns
  have hlocks := B.notSynchronized
  have hl := lv_entry ([.ref (za X 0), .int x, .ref ob]) (n := 4) (Nat.le_of_ble_eq_true rfl)
  rw [lg_entry_eq]
  generalize (lg_sl ([Value.ref (za X 0), .int x, .ref ob]) ++ List.replicate (4 - (lg_sl ([Value.ref (za X 0), .int x, .ref ob])).length) Slot.unset).toArray = ls at hl ⊢
  have hl : lv_has ls 4 [(0, .ref (za X 0)), (1, .int x), (2, .ref ob)] := hl
  have dec : ∀ (i : Nat) {pc n : Nat} {g : Instr}, zLtb[i]? = some (pc, g, n) → decode cLled pc = .ok (g, n) := fun i pc n g h => dLled (pc, g, n) (List.mem_of_getElem? h)
  refine lv_aload_n hx hb (dec 0 rfl) rfl (lv_at hl 2 rfl) ?_
  refine lv_iconst (v := 0) hx hb (dec 1 rfl) (by decide) ?_
  refine lv_aload_n hx hb (dec 2 rfl) rfl (lv_at hl 0 rfl) ?_
  refine lv_iload_n hx hb (dec 3 rfl) rfl (lv_at hl 1 rfl) ?_
  have hG := zGV (M' := M_X10_led) zml_Lled F_X10_led
  have hR2 := zR2n (M' := M_X10_led) (d := d) (a := 1) (b := 6) (a' := 1) (b' := 6) F_X10_led.1.2.2.2 (by omega)
  have hS : va_S (zA X WC) s.heap s.heap [] := va_S.rf
  have h0lt : (0 : Nat) < WC.1 := by decide
  have hrec : ∃ cell : Cell, s.heap[za X 0]? = some cell ∧ cell.vm.isStatics = false ∧ s.vm.findClass M_X10_led.1.cls = some cell.cls := va_recv hB.2.1 hB.1 (ci := 10) (q0 := 0) (q := (RX10, TX10, 13)) (fs := zfs X σ 0 10) rfl (by rw [zw_get h0lt, show WC.2 0 = (10, 0) from rfl, zE_obj (by decide)])
  have hrun := vx_runV (p := p) (e := e) (below := below) (meth := meth) (H := s.heap) (locs := []) (cells := 0) (slots := 0) (As := [.int x]) (rest := [.int 0, .ref ob]) (b := za X 0) (g := F0 m 4 ls [.int x, .ref (za X 0), .int 0, .ref ob]) (R := zrn d 1 6) ⟨hx, hb, hml, hown, hts⟩ (c_X10_led X (d - 1) (by omega) 0 x σ r σ' hf) (cwV 1 hts hG rfl rfl rfl ⟨rfl, F_X10_led.1.2.2.1⟩ hR2)
    ⟨zBX_blind _, hrec, fun U hU hW => ⟨rfl, ⟨by rw [hU]; exact hB.1, va_K.moved hW.alike hB.2.1, hB.2.2.1, by rw [hU]; exact hB.2.2.2.warm hW⟩, hXu.at hS hU hW⟩⟩ rfl rfl hl.1 rfl (lv_room (Nat.le_of_ble_eq_true rfl)) (dec 4 rfl) ⟨Nat.le_refl _, Nat.le_refl _⟩
  intro T hT Xs
  rcases hrun T hT Xs with ⟨v, st₀, t, T', L, h0, X', hL, e1, e2, hq, st⟩ | ⟨q, st₀, t, T', L, E, ce, h0, X', hL, e1, e2, hq, hce, hcv, hcl, st⟩
  · cases r with
    | none => exact hq.elim
    | some v0 =>
      obtain ⟨⟨hv, hB1⟩, hz, hk⟩ := hq
      cases hv
      rw [h0] at hz hk
      have hob1 : T'.heap[ob]? = some (vp_cell cJ (1, .inr (.inl g))) := by rw [e1, hk ob (Array.getElem?_eq_some_iff.mp hob).1 hna]; exact hob
      have key : W p X.1 e (zrn d 1 6) s m #[.ref (za X 0), .int x, .ref ob] below meth c T'.heap ([] ++ L) (0 + 1) (0 + 6) (MQ below (zLQ X cJ ob (some v0) σ' g) #[.ref (za X 0), .int x, .ref ob] s 1 6 (zLf X ob)) (F0 m 7 ls [.int v0, .int 0, .ref ob]) := by
        refine lv_i2l hx hb (dec 5 rfl) rfl ?_
        refine W.last hx hb hob1 (hAr 1 (fun j => .long (g j))) (fun q => by cases q) (by show ¬ ((0 : Int32) < 0 ∨ (arrV cJ 1 (fun j => .long (g j))).slots.size ≤ (0 : Int32).toNatClampNeg); rw [arrV_size]; decide) rfl rfl (dec 6 rfl) (fun H1 e z oq => ?_)
        have hP1 : va_P X.2.1 vwCl (zw X WC σ') H1 := by
          have h1 := hB1.1
          rw [← e1] at h1
          exact h1.kept (fun k q hk => oq q.1 (fun e => hna (by rw [← e]; exact (zw_D hB.2.2.1).2 k q hk)))
        have hF : va_F (zLf X ob) s { s with heap := H1 } := ⟨by show s.heap.size ≤ H1.size; rw [z, e1]; exact hz, fun q g1 g2 => by
          show H1[q]? = s.heap[q]?
          rw [oq q (fun e => g2 (Or.inr e)), e1]
          exact hk q g1 (fun e => g2 (Or.inl e))⟩
        have hcell : H1[ob]? = some (vp_cell cJ (1, .inr (.inl (vp_updL g 0 v0.toInt64)))) := by
          rw [e]
          show some ((arrV cJ 1 fun j => .long (g j)).setSlot 0 (.long v0.toInt64)) = some (arrV cJ 1 (fun j => .long (vp_updL g 0 v0.toInt64 j)))
          rw [arrV_store]
          congr 2
          funext q
          by_cases hq : q = 0
          · subst hq
            simp [updV, vp_updL]
          · simp [updV, vp_updL, hq]
        show W _ _ _ _ _ _ _ _ _ _ _ _ _ _ _ (F0 m 9 ls [])
        refine lv_goto (tgt := 15) hx hb (dec 7 rfl) (by decide) ?_
        refine lv_iconst (v := 0) hx hb (dec 11 rfl) (by decide) ?_
        refine W.iret (v := 0) hx hb hr (fun t ht hW => ⟨rfl, by rw [ht]; exact hP1, by rw [ht]; exact hcell, by rw [ht]; exact hF.1, fun q g1 g2 => by rw [ht]; exact hF.2 q g1 g2⟩) (fun q hq => ?_) (dec 12 rfl) hlocks
        rcases List.mem_append.mp hq with h | h
        · exact Or.inl (hL q (by simpa using h))
        · rw [List.mem_singleton.mp h]; exact Or.inr rfl
      obtain ⟨t2, a1, b1⟩ := key T' rfl X'
      exact ⟨t2, st t2 a1, b1⟩
  · obtain ⟨rfl, rfl, hP1, hz, hk⟩ := hq
    rw [h0] at hz hk
    have hob1 : T'.heap[ob]? = some (vp_cell cJ (1, .inr (.inl g))) := by rw [e1, hk ob (Array.getElem?_eq_some_iff.mp hob).1 hna]; exact hob
    have key : vx_W p X.1 e (zrn d 1 6) s m #[.ref (za X 0), .int x, .ref ob] below meth c T'.heap ([] ++ L) (0 + 1) (0 + 6) (MQ below (zLQ X cJ ob none σ' g) #[.ref (za X 0), .int x, .ref ob] s 1 6 (zLf X ob)) (F0 m 4 ls [.int 0, .ref ob]) q := by
      refine vx_catch (name := zNSE) (E := zNSE) hown [] { startPc := 0, endPc := 9, handlerPc := 12, catchType := 13 } [] htab (fun z hz => by cases hz) (by decide) (by decide) (hts _ zcl_Lled) (va_Nw.use rfl (hXu.1 _ List.mem_cons_self)) (by rw [e1]; exact hce) hcv hcl ?_
      refine lv_astore_n (lv' := [(3, .ref q), (0, .ref (za X 0)), (1, .int x), (2, .ref ob)]) hx hb (dec 8 rfl) rfl hl (by decide) rfl (fun ls hl => ?_)
      refine lv_iconst (v := 1) hx hb (dec 9 rfl) (by decide) ?_
      exact W.iret (v := 1) hx hb hr (fun t2 ht hW => ⟨rfl, by rw [ht, e1]; exact hP1, by rw [ht]; exact hob1, by rw [ht, e1]; exact hz, fun q g1 g2 => by rw [ht, e1]; exact hk q g1 (fun e => g2 (Or.inl e))⟩) (fun q hq => Or.inl (hL q (by simpa using hq))) (dec 10 rfl) hlocks
    obtain ⟨t2, a1, b1⟩ := key T' rfl X'
    exact ⟨t2, st.trans a1, b1⟩
