/-! what the tables and the given words say at the law's entry -/
theorem st_kn {s : State} {b ci : Nat} {q : vw_C} {ty : Nat → FieldType} (hts : ∀ w ∈ zTT, w.before #[Value.ref b] s = true) (hcl : zcl ci q ty) (hin : Cond.instantiable q.1 q.2.2 ∈ zTT) : ∃ x : ClassId × (Nat → Nat), ∀ r : vw_C, vwCl[ci]? = some r → u_Kn s r.1 r.2.1 r.2.2 x.1 x.2 := by
  obtain ⟨h5, h1, h6, h7, h4, h8⟩ := hcl
  obtain ⟨cC, iS, h⟩ := u_known (C := q.1) (T := q.2.1) (N := q.2.2) (n := q.2.2) hts h4 (hts _ hin)
  refine ⟨(cC, iS), fun r hr => ?_⟩
  rw [h1] at hr
  cases hr
  exact h
theorem st_kns {s : State} {b : Nat} (hts : ∀ w ∈ zTT, w.before #[Value.ref b] s = true) (ci : Nat) : ∃ x : ClassId × (Nat → Nat), ∀ r : vw_C, vwCl[ci]? = some r → u_Kn s r.1 r.2.1 r.2.2 x.1 x.2 := by
  match ci with
  | 0 => exact st_kn hts zc_0 (zTT_in (i := 281) (by decide +kernel) rfl)
  | 1 => exact st_kn hts zc_1 (zTT_in (i := 490) (by decide +kernel) rfl)
  | 2 => exact st_kn hts zc_2 (zTT_in (i := 450) (by decide +kernel) rfl)
  | 3 => exact st_kn hts zc_3 (zTT_in (i := 235) (by decide +kernel) rfl)
  | 4 => exact st_kn hts zc_4 (zTT_in (i := 209) (by decide +kernel) rfl)
  | 5 => exact st_kn hts zc_5 (zTT_in (i := 414) (by decide +kernel) rfl)
  | 6 => exact st_kn hts zc_6 (zTT_in (i := 241) (by decide +kernel) rfl)
  | 7 => exact st_kn hts zc_7 (zTT_in (i := 431) (by decide +kernel) rfl)
  | 8 => exact st_kn hts zc_8 (zTT_in (i := 168) (by decide +kernel) rfl)
  | 9 => exact st_kn hts zc_9 (zTT_in (i := 174) (by decide +kernel) rfl)
  | 10 => exact st_kn hts zc_10 (zTT_in (i := 160) (by decide +kernel) rfl)
  | 11 => exact st_kn hts zc_11 (zTT_in (i := 1296) (by decide +kernel) rfl)
  | k + 12 => exact ⟨((0 : Nat), fun _ => 0), fun r hr => by
      have hl : k + 12 < vwCl.length := (List.getElem?_eq_some_iff.mp hr).1
      have : vwCl.length = 12 := rfl
      omega⟩
theorem st_arr {s : State} {b : Nat} {ty : FieldType} (h : (Cond.arrayClass ty).before #[Value.ref b] s = true) : ∃ cA : ClassId, ArrOfT s cA ty ∧ s.vm.findClass ("[" ++ ty.toString) = some cA := by
  obtain ⟨c, k, comp, h1, h2, h3⟩ := Cond.arrayClass_spec h
  exact ⟨c, fun n z => ⟨fun k h => (by cases h), k, h2, comp, h3⟩, h1⟩
theorem st_arrO {s : State} {C : String} (h : va_AO C s) : ∃ cA : ClassId, ArrOfT s cA (.object C) ∧ va_RA s cA (.object C) := by
  obtain ⟨comp, c, k, h1, h2, h3, h4, h5⟩ := Cond.arrayOver_spec h
  exact ⟨c, fun n z => ⟨fun k h => (by cases h), k, h3, comp, h4⟩, k, comp, h3, h4, h1, h5⟩
def zcA (a b c : ClassId) : Nat → ClassId := fun k => if k = 0 then a else if k = 1 then b else c
theorem st_K {s : State} {b : Nat} (hts : ∀ w ∈ lw_tbl, w.before #[Value.ref b] s = true) : ∃ (D : va_G) (cA : Nat → ClassId) (cJ : ClassId), va_K D vwCl [(cA 0, .int), (cA 1, .byte), (cA 3, .object "PostScripts$Page")] s ∧ ArrOfT s cJ .long ∧ s.vm.findClass ("[" ++ FieldType.long.toString) = some cJ := by
  have ht : ∀ w ∈ zTT, w.before #[Value.ref b] s = true := fun w hw => hts w (List.mem_filter.mp hw).1
  obtain ⟨D, hD⟩ := Classical.axiomOfChoice (st_kns ht)
  obtain ⟨c0, a0, b0⟩ := st_arr (hts (.arrayClass .int) (List.mem_of_getElem? (i := 233) (by decide +kernel)))
  obtain ⟨c1, a1, b1⟩ := st_arr (hts (.arrayClass .byte) (List.mem_of_getElem? (i := 207) (by decide +kernel)))
  obtain ⟨cJ, aJ, bJ⟩ := st_arr (hts (.arrayClass .long) (List.mem_of_getElem? (i := 2016) (by decide +kernel)))
  obtain ⟨c3, a3, b3⟩ := st_arrO (C := "PostScripts$Page") (va_AO.of (hts (.arrayOver (.object "PostScripts$Page")) (List.mem_of_getElem? (i := 429) (by decide +kernel))))
  refine ⟨(fun c => (D c).1, fun c => (D c).2), zcA c0 c1 c3, cJ, ⟨fun c q hq => hD c q hq, fun k q hk => ?_⟩, aJ, bJ⟩
  match k, hk with
  | 0, hk => cases hk; exact ⟨a0, b0⟩
  | 1, hk => cases hk; exact ⟨a1, b1⟩
  | 2, hk => cases hk; exact ⟨a3, b3⟩
  | k + 3, hk => simp at hk
theorem st_Ns {s : State} {b : Nat} (hts : ∀ w ∈ lw_tbl, w.before #[Value.ref b] s = true) : zNs s := by
  have h : ∀ q ∈ znests, Cond.methodLinkNest q.1 q.2.1 q.2.2.1 q.2.2.2 ∈ lw_tbl := by decide +kernel
  exact ⟨fun q hq => va_Nw.of rfl (hts _ (h q hq)), va_AO.of (hts (.arrayOver (.object "PostScripts$Page")) (List.mem_of_getElem? (i := 429) (by decide +kernel)))⟩
/-- the given words, one by one -/
def stF : List Cond := flatC (Jvm.Cond.and given_1 narrow_1)
def st_tm (i : Nat) : Term := .string "PostScripts$Reade\x72" ([76, 82, 84, 86, 88, 90, 92, 94, 96, 102, 142, 153, 177, 227, 229, 197, 210, 222].getD i 0)
theorem st_m1 : ∀ i, i < 18 → Cond.exactly (st_tm i) "java/lang/String" ∈ stF := by decide +kernel
theorem st_m2 : ∀ i, i < 18 → Cond.eq (.field (st_tm i) "java/lang/String" "code\x72" "B") (.int 0) ∈ stF := by decide +kernel
theorem st_m3 : ∀ i, i < 18 → Cond.arrayOf (.field (st_tm i) "java/lang/String" "value" "[B") .byte ∈ stF := by decide +kernel
theorem st_m4 : ∀ i, i < 18 → Cond.eq (.length (.field (st_tm i) "java/lang/String" "value" "[B")) (.int (Int32.ofNat (zlen.getD i 0))) ∈ stF := by decide +kernel
theorem st_m5 : ∀ i, i < 18 → ∀ j, j < zlen.getD i 0 → Cond.eq (.elem (.field (st_tm i) "java/lang/String" "value" "[B") (.int (Int32.ofNat j))) (.int ((zbyt.getD i []).getD j 0)) ∈ stF := by decide +kernel
theorem st_m6 : ∀ i, i < 18 → zlen.getD i 0 < 2 ^ 31 := by decide +kernel
theorem st_m7 : ∀ q ∈ zstr, Cond.stringRef q.1 q.2.1 q.2.2.1 ∈ lw_tbl := by decide +kernel
theorem st_m8 : ∀ q ∈ zstr, q.2.2.2 < 18 ∧ (st_tm q.2.2.2 = .string q.1 q.2.1 ∨ Cond.eq (st_tm q.2.2.2) (.string q.1 q.2.1) ∈ stF) := by decide +kernel
theorem st_m9 : ∀ i, i < 18 → ∀ j, j < 18 → i ≠ j → Int32.ofNat (zlen.getD i 0) = Int32.ofNat (zlen.getD j 0) → (List.range (zlen.getD i 0)).any (fun k => decide (k < zlen.getD j 0) && !decide ((zbyt.getD i []).getD k 0 = (zbyt.getD j []).getD k 0)) = true := by decide +kernel
theorem st_str1 {s : State} {b : Nat} {A : Nat → Prop} (hs : ∀ w ∈ stF, w.before #[Value.ref b] s = true) (hA : ∀ a : Nat, a < s.heap.size → ¬ A a) (i : Nat) (hi : i < 18) : ∃ q : Nat × Nat, (st_tm i).eval #[Value.ref b] s none [] s = some (.ref q.1) ∧ va_O "java/lang/String" q.1 A s s.heap ∧ va_OF "java/lang/String" "code\x72" "B" (.int 0) q.1 A s s.heap ∧ va_OF "java/lang/String" "value" "[B" (.ref q.2) q.1 A s s.heap ∧ va_T .byte q.2 (zlen.getD i 0) (fun j => .int ((zbyt.getD i []).getD j 0)) A s s.heap := by
  have e0 : ∀ k, k < 1 → k = 0 := fun k hk => by omega
  obtain ⟨adK, adV, h1, h2⟩ := vk_Sof (args := #[Value.ref b]) (s := s) (N := 1) (tm := fun _ => st_tm i) (len := [zlen.getD i 0]) (byt := [zbyt.getD i []]) (A := A) (fun k hk => by rw [e0 k hk]; exact st_m6 i hi) (fun k hk => hs _ (st_m1 i hi)) (fun k hk => hs _ (st_m2 i hi)) (fun k hk => hs _ (st_m3 i hi)) (fun k hk => by rw [e0 k hk]; exact hs _ (st_m4 i hi)) (fun k hk j hj => by rw [e0 k hk] at hj ⊢; exact hs _ (st_m5 i hi j hj)) (fun k j hk hj hn => absurd ((e0 k hk).trans (e0 j hj).symm) hn) hA
  obtain ⟨g1, g2, g3, g4⟩ := h1.1 0 (by decide)
  exact ⟨(adK 0, adV 0), h2 0 (by decide), g1, g2, g3, g4⟩
theorem st_eqR {args : Array Value} {s : State} {t u : Term} {a : Nat} (h : (Cond.eq t u).before args s = true) (ht : t.eval args s none [] s = some (.ref a)) : u.eval args s none [] s = some (.ref a) := by
  obtain ⟨y, h1, h2⟩ := Cond.eq_one h
  rw [h1] at ht
  rw [h2]
  exact ht
theorem st_str {s : State} {b : Nat} {A : Nat → Prop} (hts : ∀ w ∈ lw_tbl, w.before #[Value.ref b] s = true) (hs : ∀ w ∈ stF, w.before #[Value.ref b] s = true) (hA : ∀ a : Nat, a < s.heap.size → ¬ A a) : ∃ adK adV : Nat → Nat, vk_S 18 zlen zbyt adK adV A s s.heap ∧ ∀ q ∈ zstr, vk_R q.1 q.2.1 q.2.2.1 (adK q.2.2.2) s := by
  have h0 : ∀ i : Nat, ∃ q : Nat × Nat, i < 18 → (st_tm i).eval #[Value.ref b] s none [] s = some (.ref q.1) ∧ va_O "java/lang/String" q.1 A s s.heap ∧ va_OF "java/lang/String" "code\x72" "B" (.int 0) q.1 A s s.heap ∧ va_OF "java/lang/String" "value" "[B" (.ref q.2) q.1 A s s.heap ∧ va_T .byte q.2 (zlen.getD i 0) (fun j => .int ((zbyt.getD i []).getD j 0)) A s s.heap := by
    intro i
    by_cases hi : i < 18
    · obtain ⟨q, hq⟩ := st_str1 hs hA i hi
      exact ⟨q, fun _ => hq⟩
    · exact ⟨(0, 0), fun h => absurd h hi⟩
  obtain ⟨ad, had⟩ := Classical.axiomOfChoice h0
  refine ⟨fun i => (ad i).1, fun i => (ad i).2, ⟨fun i hi => (had i hi).2, fun i j hi hj e => ?_⟩, fun q hq => ?_⟩
  · by_cases hij : i = j
    · exact hij
    · exfalso
      have e : (ad i).1 = (ad j).1 := e
      obtain ⟨-, -, -, ⟨cf, k, fi, f, cell, o1, o2, o3, o4, o5, o6⟩, ⟨ci, t1, t2, t3, t4, t5, t6, t7⟩⟩ := had i hi
      obtain ⟨-, -, -, ⟨cf', k', fi', f', cell', p1, p2, p3, p4, p5, p6⟩, ⟨cj, u1, u2, u3, u4, u5, u6, u7⟩⟩ := had j hj
      rw [o1] at p1
      cases p1
      rw [e, p3] at o3
      cases o3
      rw [p5] at o5
      have ev : (ad j).2 = (ad i).2 := by
        have := Value.ref.inj (Option.some.inj o5)
        omega
      rw [ev, t1] at u1
      cases u1
      obtain ⟨n, hn, hb⟩ := List.any_eq_true.mp (st_m9 i hi j hj hij (t5.symm.trans u5))
      rw [Bool.and_eq_true] at hb
      have h1 := t6 n (List.mem_range.mp hn)
      rw [u6 n (of_decide_eq_true hb.1)] at h1
      have h2 := Value.int.inj (Option.some.inj h1)
      have h3 := hb.2
      rw [decide_eq_true h2.symm] at h3
      cases h3
  · obtain ⟨q1, q2⟩ := st_m8 q hq
    have hv := (had _ q1).1
    refine vk_R.of (A := #[Value.ref b]) (hts _ (st_m7 q hq)) ?_
    rcases q2 with q2 | q2
    · rw [← q2]
      exact hv
    · exact st_eqR (hs _ q2) hv
theorem st_Z {s : State} {b : Nat} {A : Nat → Prop} (hts : ∀ w ∈ lw_tbl, w.before #[Value.ref b] s = true) (hs : ∀ w ∈ stF, w.before #[Value.ref b] s = true) (hA : ∀ a : Nat, a < s.heap.size → ¬ A a) : va_Z "java/lang/String" "COMPACT_STRINGS" "Z" (.int 1) A s s.heap ∧ va_Zq "jdk/internal/util/Preconditions" "SIOOBE_FORMATTE\x52" "Ljava/util/function/BiFunction;" A s s.heap ∧ va_Nw znest s := by
  refine ⟨va_Zof (hts (.laysStatic "java/lang/String" "COMPACT_STRINGS" "Z") (List.mem_of_getElem? (i := 616) (by decide +kernel))) (hts (.initialized "java/lang/String") (List.mem_of_getElem? (i := 148) (by decide +kernel))) (va_eqi (hs (.eq (.static "java/lang/String" "COMPACT_STRINGS" "Z") (.int 1)) (by decide +kernel))) hA, va_Zqof (hts (.laysStatic "jdk/internal/util/Preconditions" "SIOOBE_FORMATTE\x52" "Ljava/util/function/BiFunction;") (List.mem_of_getElem? (i := 632) (by decide +kernel))) (hts (.initialized "jdk/internal/util/Preconditions") (List.mem_of_getElem? (i := 150) (by decide +kernel))) (hs (.isRef (.static "jdk/internal/util/Preconditions" "SIOOBE_FORMATTE\x52" "Ljava/util/function/BiFunction;")) (by decide +kernel)) hA, va_Nw.of rfl (hts znest (List.mem_of_getElem? (i := 965) (by decide +kernel)))⟩
theorem st_bad : ∀ w ∈ zbad, w ∈ lw_tbl := by decide +kernel
theorem st_Xu {s : State} {b : Nat} {X : zX} {w : zW} (hts : ∀ w ∈ lw_tbl, w.before #[Value.ref b] s = true) (hs : ∀ w ∈ stF, w.before #[Value.ref b] s = true) (hA : ∀ a : Nat, a < s.heap.size → ¬ zA X w a) (hf : X.1.flags = flags0) : zXu X w s := by
  refine ⟨fun v hv => va_Nw.of (zbad_on v hv) (hts v (st_bad v hv)), vx_Zqof (args := #[Value.ref b]) (hts (.laysStatic Bundle.tN "UNASSIGNED_STACK" Bundle.steD) (List.mem_of_getElem? (i := 1261) (by decide +kernel))) (hts (.initialized Bundle.tN) (List.mem_of_getElem? (i := 155) (by decide +kernel))) (hs (.isRef (.static Bundle.tN "UNASSIGNED_STACK" Bundle.steD)) (by decide +kernel)) hA, vx_Zqof (args := #[Value.ref b]) (hts (.laysStatic Bundle.tN "SUPPRESSED_SENTINEL" Bundle.listD) (List.mem_of_getElem? (i := 1263) (by decide +kernel))) (hts (.initialized Bundle.tN) (List.mem_of_getElem? (i := 155) (by decide +kernel))) (hs (.isRef (.static Bundle.tN "SUPPRESSED_SENTINEL" Bundle.listD)) (by decide +kernel)) hA, ?_⟩
  unfold Launch.stackTraces
  rw [hf]
  decide +kernel
