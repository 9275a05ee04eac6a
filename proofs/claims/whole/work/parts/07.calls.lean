/-! calls -/
def zR (R : Room) (d : Nat) : Prop := d + 1 ≤ R.frames ∧ 40 * (d + 1) ≤ R.locals
theorem zR_rm {d e : Nat} (h : d + 1 ≤ e) : zR (zrm e) d := ⟨h, Nat.mul_le_mul_left 40 h⟩
def zMd (M : zM) (n : Nat) : Prop := Cond.code M.1 M.2.1 M.2.2.1 M.2.2.2.1 ∈ zTT ∧ Cond.initialized M.1.cls ∈ zTT ∧ (M.1.cls ≠ "java/lang/invoke/MethodHandle" ∧ M.1.cls ≠ "java/lang/invoke/VarHandle" ∧ (parseMethodDescriptor M.1.desc).map (fun d => d.parameters.length) = some n) ∧ M.2.2.1 ≤ 21
def zMV (M : zM) (n : Nat) : Prop := zMd M n ∧ Cond.instanceMethod M.1 ∈ zTT ∧ Cond.selects M.1.cls M.1 M.1 ∈ zTT
def zMS (M : zM) (n : Nat) : Prop := zMd M n ∧ Cond.static M.1 ∈ zTT
theorem zB_blind {X : zX} {w : zW} {σ : zS} (av : List Value) : FrameBlind (va_Pc av (zB X w σ)) := fun a U g mk q =>
  ⟨q.1, q.2.1, va_K.moved (u := U) (U := U.calling g mk a) (Vm.Alike.refl U.vm) q.2.2.1, q.2.2.2.1, zV.warm (s := U) (U := U.calling g mk a) (State.WarmedH.refl U) q.2.2.2.2⟩
theorem z_run {X : zX} {w : zW} {p : Program} {e : Env} {R : Room} {s : State} {m : MethodId} {args : Array Value} {below : List Frame} {meth : Method} {c : Code} {H : Heap} {locs : List Loc} {Q : State → Prop} {pc : Nat} {ls : Array Slot} {st0 rest : List Value} {o : Option Value × zS} {a : Array Value}
    (hr : va_Run p X.1 e R s m args below meth c H locs 0 0 0 0 (F0 m pc ls st0) rest (zQc X w o a) (zA X w)) (hS : va_S (zA X w) s.heap H locs)
    (kk : ∀ (H1 : Heap) (locs1 : List Loc), va_P X.2.1 vwCl (zw X w o.2) H1 → va_S (zA X w) s.heap H1 locs1 → W p X.1 e R s m args below meth c H1 locs1 0 0 Q (F0 m (pc + 3) ls ((o.1.map (zv X)).toList ++ rest))) : W p X.1 e R s m args below meth c H locs 0 0 Q (F0 m pc ls st0) := by
  intro T hT Xs
  obtain ⟨v, st₀, t, T', L, h0, X', hL, e1, e2, ⟨⟨hv, hB⟩, hz, hk⟩, stp⟩ := hr T hT Xs
  cases hv
  rw [h0] at hz hk
  obtain ⟨t2, a1, b1⟩ := kk T'.heap (locs ++ L) (by rw [e1]; exact hB.1) ⟨Nat.le_trans hS.1 (by rw [e1]; exact hz), fun q h1 h2 => by rw [e1, hk q (Nat.lt_of_lt_of_le h1 hS.1) h2]; exact hS.2.1 q h1 h2, fun q hq => by
      rcases List.mem_append.mp hq with h | h
      · exact hS.2.2 q h
      · exact hL q h⟩ T' rfl X'
  exact ⟨t2, stp t2 a1, b1⟩
theorem zcat_map (X : zX) (st : List Value) : ((st.map (zv X)).map fun v => v.category) = st.map fun v => v.category := by
  rw [List.map_map]
  exact List.map_congr_left fun v _ => zv_cat X v
section ZC
variable {X : zX} {w : zW} {R : Room} {M : zM} {ρ ρ' : Type} {Z : ρ → zS → zZt} {pc : Nat} {L : List (Option Value)} {st : List Value} {σ : zS}
theorem z_callV (i n : Nat) {M' : zM} {ix a ci na d : Nat} {q : vw_C} {As : List Value} {em : ρ' → Option Value} {f : Option (ρ' × zS)} {kf : ρ' → zS → Option (ρ × zS)} (hd : M.2.2.2.2[i]? = some (pc, .invokevirtual ix, 3)) (hn : pc + 3 = n) (hlk : Cond.methodLink M.1.cls ix M'.1 ∈ zTT) (hm : zMV M' na) (hR : zR R d)
    (hC : ∀ r σ', f = some (r, σ') → zCN X w d M' (.ref a :: As) σ (em r, σ')) (hc : ci < 100 ∧ vwCl[ci]? = some q ∧ q.1 = M'.1.cls) (hg : w.2 a = (ci, 0)) (hlen : As.length = na) (hLn : L.length = M.2.2.1) (hst : (st.map fun v => v.category).sum ≤ 8)
    (h : ∀ r σ2, zK X w R M Z n L ((em r).toList ++ st) σ2 (kf r σ2)) : zK X w R M Z pc L (As.reverse ++ .ref a :: st) σ (zbd f kf) := by
  subst hn
  intro r σ' hk p e s m args below meth c C H locs ls hP hS hl
  unfold zbd at hk
  cases hf : f with
  | none => rw [hf] at hk; cases hk
  | some q0 =>
    obtain ⟨r1, σ1⟩ := q0
    rw [hf] at hk
    have ha := C.ok.lt hg (by omega)
    obtain ⟨⟨m1, m2, m3, m4⟩, m5, m6⟩ := hm
    have hG : GoodIn zTT (wsV M.1.cls ix M'.1.cls M'.1 (Cond.code M'.1 M'.2.1 M'.2.2.1 M'.2.2.2.1 :: zTT)) := by
      intro v hv
      unfold wsV at hv
      rcases List.mem_append.mp hv with hv | hv
      · have : v ∈ zTT := by
          simp only [List.mem_cons, List.not_mem_nil, or_false] at hv
          rcases hv with rfl | rfl | rfl | rfl
          · exact hlk
          · exact m5
          · exact m6
          · exact m2
        exact ⟨this, zTT_good this⟩
      · exact zGood m1 v hv
    have hR2 : (zrm d).frames + 1 ≤ R.frames ∧ 8 + (M'.2.2.1 + 11) + (zrm d).locals ≤ R.locals := ⟨hR.1, by have := hR.2; show 8 + (M'.2.2.1 + 11) + 40 * d ≤ R.locals; omega⟩
    have hrun := va_runV (p := p) (e := e) (below := below) (meth := meth) (H := H) (locs := locs) (cells := 0) (slots := 0) (As := As.map (zv X)) (rest := st.map (zv X)) (b := za X a) (g := F0 m pc ls ((As.reverse ++ .ref a :: st).map (zv X))) ⟨C.hx, C.hb, C.hml, C.hown, C.hts⟩ (hC r1 σ1 hf) (cwV na C.hts hG rfl rfl rfl ⟨rfl, m3⟩ hR2)
      ⟨zB_blind _, va_recv C.hK hP (ci := ci) (q0 := a) (q := q) (fs := zfs X σ a ci) hc.2.1 (by rw [zw_get ha, hg, zE_obj hc.1]) |>.imp (fun cell hcell => by rw [← hc.2.2]; exact hcell), fun U hU hW => ⟨by simp [zv], zB_end C hP hS U hU hW⟩⟩ rfl (by simpa using hlen) (by show ls.size = _; rw [hl.1]; simpa using hLn) (by simp [zv, List.map_reverse]) (by show 2 * 0 + _ ≤ 8; rw [zcat_map]; omega) (C.dec hd) ⟨Nat.zero_le _, Nat.zero_le _⟩
    refine z_run hrun hS (fun H1 locs1 hP1 hS1 => ?_)
    have h1 := h r1 σ1 r σ' hk p e s m args below meth c C H1 locs1 ls hP1 hS1 hl
    rw [List.map_append] at h1
    have e2 : ((em r1).toList).map (zv X) = ((em r1).map (zv X)).toList := by cases em r1 <;> rfl
    rw [e2] at h1
    exact h1
theorem z_callVN (i n : Nat) {M' : zM} {ix a ci na d : Nat} {q : vw_C} {As : List Value} {em : ρ' → Option Value} {f : Option (ρ' × zS)} {kf : ρ' → zS → Option (ρ × zS)} (hd : M.2.2.2.2[i]? = some (pc, .invokevirtual ix, 3)) (hn : pc + 3 = n) {host : String} (hlk : znest = Cond.methodLinkNest M.1.cls ix M'.1 host) (hm : zMV M' na) (hR : zR R d)
    (hC : ∀ r σ', f = some (r, σ') → zCN X w d M' (.ref a :: As) σ (em r, σ')) (hc : ci < 100 ∧ vwCl[ci]? = some q ∧ q.1 = M'.1.cls) (hg : w.2 a = (ci, 0)) (hlen : As.length = na) (hLn : L.length = M.2.2.1) (hst : (st.map fun v => v.category).sum ≤ 8)
    (h : ∀ r σ2, zK X w R M Z n L ((em r).toList ++ st) σ2 (kf r σ2)) : zK X w R M Z pc L (As.reverse ++ .ref a :: st) σ (zbd f kf) := by
  subst hn
  intro r σ' hk p e s m args below meth c C H locs ls hP hS hl
  unfold zbd at hk
  cases hf : f with
  | none => rw [hf] at hk; cases hk
  | some q0 =>
    obtain ⟨r1, σ1⟩ := q0
    rw [hf] at hk
    have ha := C.ok.lt hg (by omega)
    obtain ⟨⟨m1, m2, m3, m4⟩, m5, m6⟩ := hm
    have hR2 : (zrm d).frames + 1 ≤ R.frames ∧ 8 + (M'.2.2.1 + 11) + (zrm d).locals ≤ R.locals := ⟨hR.1, by have := hR.2; show 8 + (M'.2.2.1 + 11) + 40 * d ≤ R.locals; omega⟩
    have hnw : va_Nw (.methodLinkNest M.1.cls ix M'.1 host) s := by rw [← hlk]; exact C.hV.2.2.2.2
    have hrun := va_runVN (p := p) (e := e) (below := below) (meth := meth) (H := H) (locs := locs) (cells := 0) (slots := 0) (As := As.map (zv X)) (rest := st.map (zv X)) (b := za X a) (C := M'.1.cls) (g := F0 m pc ls ((As.reverse ++ .ref a :: st).map (zv X))) ⟨C.hx, C.hb, C.hml, C.hown, C.hts⟩ (hC r1 σ1 hf) ⟨va_cnB na C.hts (zGood m1) rfl rfl rfl hnw (C.hts _ m2) m3 hR2, C.hts _ m5, C.hts _ m6⟩
      ⟨zB_blind _, va_recv C.hK hP (ci := ci) (q0 := a) (q := q) (fs := zfs X σ a ci) hc.2.1 (by rw [zw_get ha, hg, zE_obj hc.1]) |>.imp (fun cell hcell => by rw [← hc.2.2]; exact hcell), fun U hU hW => ⟨by simp [zv], zB_end C hP hS U hU hW⟩⟩ rfl (by simpa using hlen) (by show ls.size = _; rw [hl.1]; simpa using hLn) (by simp [zv, List.map_reverse]) (by show 2 * 0 + _ ≤ 8; rw [zcat_map]; omega) (C.dec hd) ⟨Nat.zero_le _, Nat.zero_le _⟩
    refine z_run hrun hS (fun H1 locs1 hP1 hS1 => ?_)
    have h1 := h r1 σ1 r σ' hk p e s m args below meth c C H1 locs1 ls hP1 hS1 hl
    rw [List.map_append] at h1
    have e2 : ((em r1).toList).map (zv X) = ((em r1).map (zv X)).toList := by cases em r1 <;> rfl
    rw [e2] at h1
    exact h1
theorem z_callS (i n : Nat) {M' : zM} {ix na d : Nat} {As : List Value} {em : ρ' → Option Value} {f : Option (ρ' × zS)} {kf : ρ' → zS → Option (ρ × zS)} (hd : M.2.2.2.2[i]? = some (pc, .invokestatic ix, 3)) (hn : pc + 3 = n) (hlk : Cond.methodLink M.1.cls ix M'.1 ∈ zTT) (hm : zMS M' na) (hR : zR R d)
    (hC : ∀ r σ', f = some (r, σ') → zCN X w d M' As σ (em r, σ')) (hlen : As.length = na) (hLn : L.length = M.2.2.1) (hst : (st.map fun v => v.category).sum ≤ 8)
    (h : ∀ r σ2, zK X w R M Z n L ((em r).toList ++ st) σ2 (kf r σ2)) : zK X w R M Z pc L (As.reverse ++ st) σ (zbd f kf) := by
  subst hn
  intro r σ' hk p e s m args below meth c C H locs ls hP hS hl
  unfold zbd at hk
  cases hf : f with
  | none => rw [hf] at hk; cases hk
  | some q0 =>
    obtain ⟨r1, σ1⟩ := q0
    rw [hf] at hk
    obtain ⟨⟨m1, m2, m3, m4⟩, m5⟩ := hm
    have hG : GoodIn zTT (va_wsS M.1.cls ix M'.1 (Cond.code M'.1 M'.2.1 M'.2.2.1 M'.2.2.2.1 :: zTT)) := by
      intro v hv
      unfold va_wsS at hv
      rcases List.mem_append.mp hv with hv | hv
      · have : v ∈ zTT := by
          simp only [List.mem_cons, List.not_mem_nil, or_false] at hv
          rcases hv with rfl | rfl | rfl
          · exact hlk
          · exact m5
          · exact m2
        exact ⟨this, zTT_good this⟩
      · exact zGood m1 v hv
    have hR2 : (zrm d).frames + 1 ≤ R.frames ∧ 8 + (M'.2.2.1 + 11) + (zrm d).locals ≤ R.locals := ⟨hR.1, by have := hR.2; show 8 + (M'.2.2.1 + 11) + 40 * d ≤ R.locals; omega⟩
    have hrun := va_runS (p := p) (e := e) (below := below) (meth := meth) (H := H) (locs := locs) (cells := 0) (slots := 0) (As := As.map (zv X)) (rest := st.map (zv X)) (g := F0 m pc ls ((As.reverse ++ st).map (zv X))) ⟨C.hx, C.hb, C.hml, C.hown, C.hts⟩ (hC r1 σ1 hf) (va_cwS na C.hts hG rfl rfl rfl m3 hR2)
      ⟨zB_blind _, fun U hU hW => ⟨rfl, zB_end C hP hS U hU hW⟩⟩ rfl (by simpa using hlen) (by show ls.size = _; rw [hl.1]; simpa using hLn) (by simp [List.map_reverse]) (by show 2 * 0 + _ ≤ 8; rw [zcat_map]; omega) (C.dec hd) ⟨Nat.zero_le _, Nat.zero_le _⟩
    refine z_run hrun hS (fun H1 locs1 hP1 hS1 => ?_)
    have h1 := h r1 σ1 r σ' hk p e s m args below meth c C H1 locs1 ls hP1 hS1 hl
    rw [List.map_append] at h1
    have e2 : ((em r1).toList).map (zv X) = ((em r1).map (zv X)).toList := by cases em r1 <;> rfl
    rw [e2] at h1
    exact h1
end ZC
