theorem sA_mono (g : Nat × Nat) (S : zN) : (sA g S).1.length = S.1.length + 1 ∧ ∀ a, a < S.1.length → zgd (sA g S) a = zgd S a := by
  refine ⟨by simp [sA], fun a ha => ?_⟩
  unfold zgd sA
  rw [List.getD_eq_getElem?_getD, List.getElem?_append_left ha, ← List.getD_eq_getElem?_getD]
theorem sA_new (g : Nat × Nat) (S : zN) : zgd (sA g S) S.1.length = g := by
  unfold zgd sA
  rw [List.getD_eq_getElem?_getD, List.getElem?_append_right (Nat.le_refl _), Nat.sub_self]
  rfl
def zmono (f : Nat → zN → zN) (mc : Nat) : Prop := ∀ b S, (f b S).1.length = S.1.length + mc ∧ ∀ a, a < S.1.length → zgd (f b S) a = zgd S a
theorem sF_mono (a k : Nat) (g : Nat × Nat) (S : zN) : (sF a k g S).1.length = S.1.length + 1 ∧ ∀ b, b < S.1.length → zgd (sF a k g S) b = zgd S b := sA_mono g S
theorem sO_mono {f : Nat → zN → zN} {mc : Nat} (hf : zmono f mc) (a k : Nat) (g : Nat × Nat) (S : zN) : (sO f a k g S).1.length = S.1.length + (mc + 1) ∧ ∀ b, b < S.1.length → zgd (sO f a k g S) b = zgd S b := by
  obtain ⟨h1, h2⟩ := hf S.1.length (sA g S)
  obtain ⟨h3, h4⟩ := sA_mono g S
  refine ⟨by show (f S.1.length (sA g S)).1.length = _; omega, fun b hb => ?_⟩
  show zgd (f S.1.length (sA g S)) b = _
  rw [h2 b (by omega), h4 b hb]
section ZGO
variable {X : zX} {B : Nat} {R : Room} {M : zM} {mc ms : Nat} {Sf : zN} {pc : Nat} {L : List (Option Value)} {st : List Value} {S : zN} {cells slots : Nat}
theorem n_putF (i n fk : Nat) {g : Nat × Nat} {a ci ix : Nat} {q : vw_C} {ty : Nat → FieldType} (hd : M.2.2.2.2[i]? = some (pc, .putfield ix, 3)) (hn : pc + 3 = n) (hf : zF M.1.cls ix ci fk q ty) (hb : (zf ci)[fk]? = some true) (hown : (q.2.1 fk).1 = M.1.cls) (hty : ∀ z : Nat, narrow (ty fk) (.ref z) = .ref z ∧ fits (ty fk) (.ref z) = true) (hl0 : S.1.length < 1000) (ha : a < S.1.length) (hg : zgd S a = (ci, 0)) (h : zGn X B R M mc ms Sf n L st (sF a fk g S) cells slots) : zGn X B R M mc ms Sf pc L (.ref S.1.length :: .ref a :: st) (sA g S) cells slots :=
  n_putR i n fk hd hn hf hb hown hty (by omega) (by have := (sA_mono g S).1; omega) (by rw [(sA_mono g S).2 a ha]; exact hg) h
theorem n_putO (i n fk : Nat) {f : Nat → zN → zN} {mf : Nat} {g : Nat × Nat} {a ci ix : Nat} {q : vw_C} {ty : Nat → FieldType} (hmf : zmono f mf) (hd : M.2.2.2.2[i]? = some (pc, .putfield ix, 3)) (hn : pc + 3 = n) (hf : zF M.1.cls ix ci fk q ty) (hb : (zf ci)[fk]? = some true) (hown : (q.2.1 fk).1 = M.1.cls) (hty : ∀ z : Nat, narrow (ty fk) (.ref z) = .ref z ∧ fits (ty fk) (.ref z) = true) (hl0 : S.1.length + mf + 1 ≤ 1000) (ha : a < S.1.length) (hg : zgd S a = (ci, 0)) (h : zGn X B R M mc ms Sf n L st (sO f a fk g S) cells slots) : zGn X B R M mc ms Sf pc L (.ref S.1.length :: .ref a :: st) (f S.1.length (sA g S)) cells slots := by
  obtain ⟨h1, h2⟩ := hmf S.1.length (sA g S)
  obtain ⟨h3, h4⟩ := sA_mono g S
  exact n_putR i n fk hd hn hf hb hown hty (by omega) (by omega) (by rw [h2 a (by omega), h4 a ha]; exact hg) h
theorem n_newP (i n : Nat) {N ix ci : Nat} {q : vw_C} {ty : Nat → FieldType} (hd : M.2.2.2.2[i]? = some (pc, .new ix, 3)) (hn : pc + 3 = n) (hcl : zcl ci q ty) (hlk : Cond.classLink M.1.cls ix q.1 ∈ zTT) (hin : Cond.instantiable q.1 q.2.2 ∈ zTT) (hini : Cond.initialized q.1 ∈ zTT) (hty : ∀ k, k < q.2.2 → ∀ b, (zf ci)[k]? = some b → defaultValue (ty k) = if b = true then Value.null else .int 0) (hN : q.2.2 = N) (hl0 : S.1.length < 1000) (hc : cells + 1 ≤ R.cells) (hs : slots + N ≤ R.slots) (h : zGn X B R M mc ms Sf n L (.ref S.1.length :: st) (sA (ci, 0) S) (cells + 1) (slots + N)) : zGn X B R M mc ms Sf pc L st S cells slots := by
  subst hN
  exact n_newO i n hd hn hcl hlk hin hini hty hl0 hc hs h
end ZGO
theorem zdv_0 : ∀ k, k < 5 → ∀ b, (zf 0)[k]? = some b → defaultValue (tyX0 k) = if b = true then Value.null else .int 0 := by
  have h : ∀ k, k < 5 → defaultValue (tyX0 k) = if (zf 0)[k]? = some true then Value.null else .int 0 := by decide +kernel
  intro k hk b hb
  rw [h k hk, hb]
  cases b <;> simp
theorem zin_0 : Cond.instantiable RX0 5 ∈ zTT := zTT_in (i := 281) (by decide +kernel) rfl
theorem zit_0 : Cond.initialized RX0 ∈ zTT := zTT_in (i := 142) (by decide +kernel) rfl
theorem zdv_1 : ∀ k, k < 1 → ∀ b, (zf 1)[k]? = some b → defaultValue (tyX1 k) = if b = true then Value.null else .int 0 := by
  have h : ∀ k, k < 1 → defaultValue (tyX1 k) = if (zf 1)[k]? = some true then Value.null else .int 0 := by decide +kernel
  intro k hk b hb
  rw [h k hk, hb]
  cases b <;> simp
theorem zin_1 : Cond.instantiable RX1 1 ∈ zTT := zTT_in (i := 490) (by decide +kernel) rfl
theorem zit_1 : Cond.initialized RX1 ∈ zTT := zTT_in (i := 146) (by decide +kernel) rfl
theorem zdv_2 : ∀ k, k < 10 → ∀ b, (zf 2)[k]? = some b → defaultValue (tyX2 k) = if b = true then Value.null else .int 0 := by
  have h : ∀ k, k < 10 → defaultValue (tyX2 k) = if (zf 2)[k]? = some true then Value.null else .int 0 := by decide +kernel
  intro k hk b hb
  rw [h k hk, hb]
  cases b <;> simp
theorem zin_2 : Cond.instantiable RX2 10 ∈ zTT := zTT_in (i := 450) (by decide +kernel) rfl
theorem zit_2 : Cond.initialized RX2 ∈ zTT := zTT_in (i := 145) (by decide +kernel) rfl
theorem zdv_3 : ∀ k, k < 16 → ∀ b, (zf 3)[k]? = some b → defaultValue (tyX3 k) = if b = true then Value.null else .int 0 := by
  have h : ∀ k, k < 16 → defaultValue (tyX3 k) = if (zf 3)[k]? = some true then Value.null else .int 0 := by decide +kernel
  intro k hk b hb
  rw [h k hk, hb]
  cases b <;> simp
theorem zin_3 : Cond.instantiable RX3 16 ∈ zTT := zTT_in (i := 235) (by decide +kernel) rfl
theorem zit_3 : Cond.initialized RX3 ∈ zTT := zTT_in (i := 140) (by decide +kernel) rfl
theorem zdv_4 : ∀ k, k < 5 → ∀ b, (zf 4)[k]? = some b → defaultValue (tyX4 k) = if b = true then Value.null else .int 0 := by
  have h : ∀ k, k < 5 → defaultValue (tyX4 k) = if (zf 4)[k]? = some true then Value.null else .int 0 := by decide +kernel
  intro k hk b hb
  rw [h k hk, hb]
  cases b <;> simp
theorem zin_4 : Cond.instantiable RX4 5 ∈ zTT := zTT_in (i := 209) (by decide +kernel) rfl
theorem zit_4 : Cond.initialized RX4 ∈ zTT := zTT_in (i := 139) (by decide +kernel) rfl
theorem zdv_5 : ∀ k, k < 2 → ∀ b, (zf 5)[k]? = some b → defaultValue (tyX5 k) = if b = true then Value.null else .int 0 := by
  have h : ∀ k, k < 2 → defaultValue (tyX5 k) = if (zf 5)[k]? = some true then Value.null else .int 0 := by decide +kernel
  intro k hk b hb
  rw [h k hk, hb]
  cases b <;> simp
theorem zin_5 : Cond.instantiable RX5 2 ∈ zTT := zTT_in (i := 414) (by decide +kernel) rfl
theorem zit_5 : Cond.initialized RX5 ∈ zTT := zTT_in (i := 143) (by decide +kernel) rfl
theorem zdv_6 : ∀ k, k < 8 → ∀ b, (zf 6)[k]? = some b → defaultValue (tyX6 k) = if b = true then Value.null else .int 0 := by
  have h : ∀ k, k < 8 → defaultValue (tyX6 k) = if (zf 6)[k]? = some true then Value.null else .int 0 := by decide +kernel
  intro k hk b hb
  rw [h k hk, hb]
  cases b <;> simp
theorem zin_6 : Cond.instantiable RX6 8 ∈ zTT := zTT_in (i := 241) (by decide +kernel) rfl
theorem zit_6 : Cond.initialized RX6 ∈ zTT := zTT_in (i := 141) (by decide +kernel) rfl
theorem zdv_7 : ∀ k, k < 3 → ∀ b, (zf 7)[k]? = some b → defaultValue (tyX7 k) = if b = true then Value.null else .int 0 := by
  have h : ∀ k, k < 3 → defaultValue (tyX7 k) = if (zf 7)[k]? = some true then Value.null else .int 0 := by decide +kernel
  intro k hk b hb
  rw [h k hk, hb]
  cases b <;> simp
theorem zin_7 : Cond.instantiable RX7 3 ∈ zTT := zTT_in (i := 431) (by decide +kernel) rfl
theorem zit_7 : Cond.initialized RX7 ∈ zTT := zTT_in (i := 144) (by decide +kernel) rfl
theorem zdv_8 : ∀ k, k < 5 → ∀ b, (zf 8)[k]? = some b → defaultValue (tyX8 k) = if b = true then Value.null else .int 0 := by
  have h : ∀ k, k < 5 → defaultValue (tyX8 k) = if (zf 8)[k]? = some true then Value.null else .int 0 := by decide +kernel
  intro k hk b hb
  rw [h k hk, hb]
  cases b <;> simp
theorem zin_8 : Cond.instantiable RX8 5 ∈ zTT := zTT_in (i := 168) (by decide +kernel) rfl
theorem zit_8 : Cond.initialized RX8 ∈ zTT := zTT_in (i := 137) (by decide +kernel) rfl
theorem zdv_9 : ∀ k, k < 7 → ∀ b, (zf 9)[k]? = some b → defaultValue (tyX9 k) = if b = true then Value.null else .int 0 := by
  have h : ∀ k, k < 7 → defaultValue (tyX9 k) = if (zf 9)[k]? = some true then Value.null else .int 0 := by decide +kernel
  intro k hk b hb
  rw [h k hk, hb]
  cases b <;> simp
theorem zin_9 : Cond.instantiable RX9 7 ∈ zTT := zTT_in (i := 174) (by decide +kernel) rfl
theorem zit_9 : Cond.initialized RX9 ∈ zTT := zTT_in (i := 138) (by decide +kernel) rfl
theorem zdv_10 : ∀ k, k < 13 → ∀ b, (zf 10)[k]? = some b → defaultValue (tyX10 k) = if b = true then Value.null else .int 0 := by
  have h : ∀ k, k < 13 → defaultValue (tyX10 k) = if (zf 10)[k]? = some true then Value.null else .int 0 := by decide +kernel
  intro k hk b hb
  rw [h k hk, hb]
  cases b <;> simp
theorem zin_10 : Cond.instantiable RX10 13 ∈ zTT := zTT_in (i := 160) (by decide +kernel) rfl
theorem zit_10 : Cond.initialized RX10 ∈ zTT := zTT_in (i := 136) (by decide +kernel) rfl
theorem zdv_11 : ∀ k, k < 40 → ∀ b, (zf 11)[k]? = some b → defaultValue (tyX11 k) = if b = true then Value.null else .int 0 := by
  have h : ∀ k, k < 40 → defaultValue (tyX11 k) = if (zf 11)[k]? = some true then Value.null else .int 0 := by decide +kernel
  intro k hk b hb
  rw [h k hk, hb]
  cases b <;> simp
theorem zin_11 : Cond.instantiable RX11 40 ∈ zTT := zTT_in (i := 1296) (by decide +kernel) rfl
theorem zit_11 : Cond.initialized RX11 ∈ zTT := zTT_in (i := 147) (by decide +kernel) rfl
def M_X6_init : zM := (⟨RX6, "<init>", "()V"⟩, prog_8_method_1_code, 1, none, [(0, .aload_n 0, 1), (1, .invokespecial 3, 3), (4, .aload_n 0, 1), (5, .bipush 8, 2), (7, .newarray .int, 2), (9, .putfield 9, 3), (12, .aload_n 0, 1), (13, .bipush 8, 2), (15, .newarray .int, 2), (17, .putfield 15, 3), (20, .aload_n 0, 1), (21, .bipush 8, 2), (23, .newarray .int, 2), (25, .putfield 18, 3), (28, .aload_n 0, 1), (29, .bipush 8, 2), (31, .newarray .int, 2), (33, .putfield 21, 3), (36, .aload_n 0, 1), (37, .bipush 8, 2), (39, .newarray .int, 2), (41, .putfield 24, 3), (44, .return_, 1)])
theorem T_X6_init : zT M_X6_init := zT_of (by decide +kernel)
theorem F_X6_init : zMI M_X6_init := ⟨⟨zTT_in (i := 244) (by decide +kernel) rfl, zit_6, ⟨by decide, by decide, by decide +kernel⟩, by decide⟩, zTT_in (i := 243) (by decide +kernel) rfl, rfl, rfl⟩
def i_X6 (a : Nat) (S : zN) : zN := sF a 4 (100, 8) (sF a 3 (100, 8) (sF a 2 (100, 8) (sF a 1 (100, 8) (sF a 0 (100, 8) S))))
theorem mono_X6 : zmono i_X6 5 := by
  intro a S
  unfold i_X6
  have h0 := sF_mono a 0 (100, 8) S
  have h1 := sF_mono a 1 (100, 8) (sF a 0 (100, 8) S)
  have h2 := sF_mono a 2 (100, 8) (sF a 1 (100, 8) (sF a 0 (100, 8) S))
  have h3 := sF_mono a 3 (100, 8) (sF a 2 (100, 8) (sF a 1 (100, 8) (sF a 0 (100, 8) S)))
  have h4 := sF_mono a 4 (100, 8) (sF a 3 (100, 8) (sF a 2 (100, 8) (sF a 1 (100, 8) (sF a 0 (100, 8) S))))
  refine ⟨by omega, fun b hb => ?_⟩
  rw [h4.2 b (by omega), h3.2 b (by omega), h2.2 b (by omega), h1.2 b (by omega), h0.2 b (by omega)]
theorem ci_X6 (X : zX) (B d : Nat) (hd : 1 ≤ d) (a : Nat) (S : zN) (hl0 : S.1.length + 5 ≤ 1000) (ha : a < S.1.length) (hg : zgd S a = (6, 0)) : zCI X B d M_X6_init a S (i_X6 a S) 5 40 := by
  refine n_entry (by decide +kernel) T_X6_init rfl (by omega) (by omega) (by decide) ?_
  unfold i_X6
  show zGn X B (zrn d 5 40) M_X6_init 5 40 _ 0 [some (.ref a)] [] S 0 0
  refine n_aload0 0 1 rfl rfl ?_
  refine n_objInit 1 4 rfl rfl (zTT_in (i := 245) (by decide +kernel) rfl) ⟨by show 1 ≤ d; omega, by show 40 ≤ 40 * d; omega⟩ rfl ?_
  refine n_aload0 2 5 rfl rfl ?_
  refine n_bipush 3 7 rfl rfl (v := 8) (by decide) ?_
  refine n_newI 4 9 rfl rfl (N := 8) (by decide) (by decide) (by decide) (by omega) (by show _ ≤ 5; omega) (by show _ ≤ 40; omega) ?_
  refine n_putF 5 12 0 rfl rfl zf_X6_9 rfl rfl (fun z => ⟨rfl, rfl⟩) (by omega) (by omega) hg ?_
  obtain ⟨hm1, hm2⟩ := sF_mono a 0 (100, 8) S
  have hg2 := (hm2 a ha).trans hg
  generalize sF a 0 (100, 8) S = S1 at hm1 hg2 ⊢
  clear hm2
  have ha2 : a < S1.1.length := by omega
  replace hg := hg2
  replace ha := ha2
  clear hg2 ha2
  refine n_aload0 6 13 rfl rfl ?_
  refine n_bipush 7 15 rfl rfl (v := 8) (by decide) ?_
  refine n_newI 8 17 rfl rfl (N := 8) (by decide) (by decide) (by decide) (by omega) (by show _ ≤ 5; omega) (by show _ ≤ 40; omega) ?_
  refine n_putF 9 20 1 rfl rfl zf_X6_15 rfl rfl (fun z => ⟨rfl, rfl⟩) (by omega) (by omega) hg ?_
  obtain ⟨hm1, hm2⟩ := sF_mono a 1 (100, 8) S1
  have hg2 := (hm2 a ha).trans hg
  generalize sF a 1 (100, 8) S1 = S2 at hm1 hg2 ⊢
  clear hm2
  have ha2 : a < S2.1.length := by omega
  replace hg := hg2
  replace ha := ha2
  clear hg2 ha2
  refine n_aload0 10 21 rfl rfl ?_
  refine n_bipush 11 23 rfl rfl (v := 8) (by decide) ?_
  refine n_newI 12 25 rfl rfl (N := 8) (by decide) (by decide) (by decide) (by omega) (by show _ ≤ 5; omega) (by show _ ≤ 40; omega) ?_
  refine n_putF 13 28 2 rfl rfl zf_X6_18 rfl rfl (fun z => ⟨rfl, rfl⟩) (by omega) (by omega) hg ?_
  obtain ⟨hm1, hm2⟩ := sF_mono a 2 (100, 8) S2
  have hg2 := (hm2 a ha).trans hg
  generalize sF a 2 (100, 8) S2 = S3 at hm1 hg2 ⊢
  clear hm2
  have ha2 : a < S3.1.length := by omega
  replace hg := hg2
  replace ha := ha2
  clear hg2 ha2
  refine n_aload0 14 29 rfl rfl ?_
  refine n_bipush 15 31 rfl rfl (v := 8) (by decide) ?_
  refine n_newI 16 33 rfl rfl (N := 8) (by decide) (by decide) (by decide) (by omega) (by show _ ≤ 5; omega) (by show _ ≤ 40; omega) ?_
  refine n_putF 17 36 3 rfl rfl zf_X6_21 rfl rfl (fun z => ⟨rfl, rfl⟩) (by omega) (by omega) hg ?_
  obtain ⟨hm1, hm2⟩ := sF_mono a 3 (100, 8) S3
  have hg2 := (hm2 a ha).trans hg
  generalize sF a 3 (100, 8) S3 = S4 at hm1 hg2 ⊢
  clear hm2
  have ha2 : a < S4.1.length := by omega
  replace hg := hg2
  replace ha := ha2
  clear hg2 ha2
  refine n_aload0 18 37 rfl rfl ?_
  refine n_bipush 19 39 rfl rfl (v := 8) (by decide) ?_
  refine n_newI 20 41 rfl rfl (N := 8) (by decide) (by decide) (by decide) (by omega) (by show _ ≤ 5; omega) (by show _ ≤ 40; omega) ?_
  refine n_putF 21 44 4 rfl rfl zf_X6_24 rfl rfl (fun z => ⟨rfl, rfl⟩) (by omega) (by omega) hg ?_
  obtain ⟨hm1, hm2⟩ := sF_mono a 4 (100, 8) S4
  have hg2 := (hm2 a ha).trans hg
  generalize sF a 4 (100, 8) S4 = S5 at hm1 hg2 ⊢
  clear hm2
  have ha2 : a < S5.1.length := by omega
  replace hg := hg2
  replace ha := ha2
  clear hg2 ha2
  exact n_vret 22 rfl rfl rfl rfl
def M_X0_init : zM := (⟨RX0, "<init>", "()V"⟩, prog_2_method_1_code, 1, none, [(0, .aload_n 0, 1), (1, .invokespecial 3, 3), (4, .aload_n 0, 1), (5, .bipush 6, 2), (7, .newarray .int, 2), (9, .putfield 9, 3), (12, .aload_n 0, 1), (13, .bipush 6, 2), (15, .newarray .int, 2), (17, .putfield 15, 3), (20, .aload_n 0, 1), (21, .bipush 6, 2), (23, .newarray .int, 2), (25, .putfield 18, 3), (28, .aload_n 0, 1), (29, .bipush 6, 2), (31, .newarray .int, 2), (33, .putfield 21, 3), (36, .return_, 1)])
theorem T_X0_init : zT M_X0_init := zT_of (by decide +kernel)
theorem F_X0_init : zMI M_X0_init := ⟨⟨zTT_in (i := 284) (by decide +kernel) rfl, zit_0, ⟨by decide, by decide, by decide +kernel⟩, by decide⟩, zTT_in (i := 283) (by decide +kernel) rfl, rfl, rfl⟩
def i_X0 (a : Nat) (S : zN) : zN := sF a 3 (100, 6) (sF a 2 (100, 6) (sF a 1 (100, 6) (sF a 0 (100, 6) S)))
theorem mono_X0 : zmono i_X0 4 := by
  intro a S
  unfold i_X0
  have h0 := sF_mono a 0 (100, 6) S
  have h1 := sF_mono a 1 (100, 6) (sF a 0 (100, 6) S)
  have h2 := sF_mono a 2 (100, 6) (sF a 1 (100, 6) (sF a 0 (100, 6) S))
  have h3 := sF_mono a 3 (100, 6) (sF a 2 (100, 6) (sF a 1 (100, 6) (sF a 0 (100, 6) S)))
  refine ⟨by omega, fun b hb => ?_⟩
  rw [h3.2 b (by omega), h2.2 b (by omega), h1.2 b (by omega), h0.2 b (by omega)]
theorem ci_X0 (X : zX) (B d : Nat) (hd : 1 ≤ d) (a : Nat) (S : zN) (hl0 : S.1.length + 4 ≤ 1000) (ha : a < S.1.length) (hg : zgd S a = (0, 0)) : zCI X B d M_X0_init a S (i_X0 a S) 4 24 := by
  refine n_entry (by decide +kernel) T_X0_init rfl (by omega) (by omega) (by decide) ?_
  unfold i_X0
  show zGn X B (zrn d 4 24) M_X0_init 4 24 _ 0 [some (.ref a)] [] S 0 0
  refine n_aload0 0 1 rfl rfl ?_
  refine n_objInit 1 4 rfl rfl (zTT_in (i := 285) (by decide +kernel) rfl) ⟨by show 1 ≤ d; omega, by show 40 ≤ 40 * d; omega⟩ rfl ?_
  refine n_aload0 2 5 rfl rfl ?_
  refine n_bipush 3 7 rfl rfl (v := 6) (by decide) ?_
  refine n_newI 4 9 rfl rfl (N := 6) (by decide) (by decide) (by decide) (by omega) (by show _ ≤ 4; omega) (by show _ ≤ 24; omega) ?_
  refine n_putF 5 12 0 rfl rfl zf_X0_9 rfl rfl (fun z => ⟨rfl, rfl⟩) (by omega) (by omega) hg ?_
  obtain ⟨hm1, hm2⟩ := sF_mono a 0 (100, 6) S
  have hg2 := (hm2 a ha).trans hg
  generalize sF a 0 (100, 6) S = S1 at hm1 hg2 ⊢
  clear hm2
  have ha2 : a < S1.1.length := by omega
  replace hg := hg2
  replace ha := ha2
  clear hg2 ha2
  refine n_aload0 6 13 rfl rfl ?_
  refine n_bipush 7 15 rfl rfl (v := 6) (by decide) ?_
  refine n_newI 8 17 rfl rfl (N := 6) (by decide) (by decide) (by decide) (by omega) (by show _ ≤ 4; omega) (by show _ ≤ 24; omega) ?_
  refine n_putF 9 20 1 rfl rfl zf_X0_15 rfl rfl (fun z => ⟨rfl, rfl⟩) (by omega) (by omega) hg ?_
  obtain ⟨hm1, hm2⟩ := sF_mono a 1 (100, 6) S1
  have hg2 := (hm2 a ha).trans hg
  generalize sF a 1 (100, 6) S1 = S2 at hm1 hg2 ⊢
  clear hm2
  have ha2 : a < S2.1.length := by omega
  replace hg := hg2
  replace ha := ha2
  clear hg2 ha2
  refine n_aload0 10 21 rfl rfl ?_
  refine n_bipush 11 23 rfl rfl (v := 6) (by decide) ?_
  refine n_newI 12 25 rfl rfl (N := 6) (by decide) (by decide) (by decide) (by omega) (by show _ ≤ 4; omega) (by show _ ≤ 24; omega) ?_
  refine n_putF 13 28 2 rfl rfl zf_X0_18 rfl rfl (fun z => ⟨rfl, rfl⟩) (by omega) (by omega) hg ?_
  obtain ⟨hm1, hm2⟩ := sF_mono a 2 (100, 6) S2
  have hg2 := (hm2 a ha).trans hg
  generalize sF a 2 (100, 6) S2 = S3 at hm1 hg2 ⊢
  clear hm2
  have ha2 : a < S3.1.length := by omega
  replace hg := hg2
  replace ha := ha2
  clear hg2 ha2
  refine n_aload0 14 29 rfl rfl ?_
  refine n_bipush 15 31 rfl rfl (v := 6) (by decide) ?_
  refine n_newI 16 33 rfl rfl (N := 6) (by decide) (by decide) (by decide) (by omega) (by show _ ≤ 4; omega) (by show _ ≤ 24; omega) ?_
  refine n_putF 17 36 3 rfl rfl zf_X0_21 rfl rfl (fun z => ⟨rfl, rfl⟩) (by omega) (by omega) hg ?_
  obtain ⟨hm1, hm2⟩ := sF_mono a 3 (100, 6) S3
  have hg2 := (hm2 a ha).trans hg
  generalize sF a 3 (100, 6) S3 = S4 at hm1 hg2 ⊢
  clear hm2
  have ha2 : a < S4.1.length := by omega
  replace hg := hg2
  replace ha := ha2
  clear hg2 ha2
  exact n_vret 18 rfl rfl rfl rfl
def M_X3_init : zM := (⟨RX3, "<init>", "()V"⟩, prog_5_method_1_code, 1, none, [(0, .aload_n 0, 1), (1, .invokespecial 3, 3), (4, .aload_n 0, 1), (5, .bipush 6, 2), (7, .newarray .int, 2), (9, .putfield 9, 3), (12, .aload_n 0, 1), (13, .bipush 6, 2), (15, .newarray .int, 2), (17, .putfield 15, 3), (20, .aload_n 0, 1), (21, .bipush 6, 2), (23, .newarray .int, 2), (25, .putfield 18, 3), (28, .aload_n 0, 1), (29, .bipush 6, 2), (31, .newarray .int, 2), (33, .putfield 21, 3), (36, .aload_n 0, 1), (37, .iconst 4, 1), (38, .newarray .int, 2), (40, .putfield 24, 3), (43, .aload_n 0, 1), (44, .iconst 4, 1), (45, .newarray .int, 2), (47, .putfield 27, 3), (50, .aload_n 0, 1), (51, .iconst 3, 1), (52, .newarray .int, 2), (54, .putfield 30, 3), (57, .aload_n 0, 1), (58, .new 33, 3), (61, .dup, 1), (62, .invokespecial 35, 3), (65, .putfield 36, 3), (68, .aload_n 0, 1), (69, .new 40, 3), (72, .dup, 1), (73, .invokespecial 42, 3), (76, .putfield 43, 3), (79, .return_, 1)])
theorem T_X3_init : zT M_X3_init := zT_of (by decide +kernel)
theorem F_X3_init : zMI M_X3_init := ⟨⟨zTT_in (i := 238) (by decide +kernel) rfl, zit_3, ⟨by decide, by decide, by decide +kernel⟩, by decide⟩, zTT_in (i := 237) (by decide +kernel) rfl, rfl, rfl⟩
def i_X3 (a : Nat) (S : zN) : zN := sO i_X0 a 8 (0, 0) (sO i_X6 a 7 (6, 0) (sF a 6 (100, 3) (sF a 5 (100, 4) (sF a 4 (100, 4) (sF a 3 (100, 6) (sF a 2 (100, 6) (sF a 1 (100, 6) (sF a 0 (100, 6) S))))))))
theorem mono_X3 : zmono i_X3 18 := by
  intro a S
  unfold i_X3
  have h0 := sF_mono a 0 (100, 6) S
  have h1 := sF_mono a 1 (100, 6) (sF a 0 (100, 6) S)
  have h2 := sF_mono a 2 (100, 6) (sF a 1 (100, 6) (sF a 0 (100, 6) S))
  have h3 := sF_mono a 3 (100, 6) (sF a 2 (100, 6) (sF a 1 (100, 6) (sF a 0 (100, 6) S)))
  have h4 := sF_mono a 4 (100, 4) (sF a 3 (100, 6) (sF a 2 (100, 6) (sF a 1 (100, 6) (sF a 0 (100, 6) S))))
  have h5 := sF_mono a 5 (100, 4) (sF a 4 (100, 4) (sF a 3 (100, 6) (sF a 2 (100, 6) (sF a 1 (100, 6) (sF a 0 (100, 6) S)))))
  have h6 := sF_mono a 6 (100, 3) (sF a 5 (100, 4) (sF a 4 (100, 4) (sF a 3 (100, 6) (sF a 2 (100, 6) (sF a 1 (100, 6) (sF a 0 (100, 6) S))))))
  have h7 := sO_mono mono_X6 a 7 (6, 0) (sF a 6 (100, 3) (sF a 5 (100, 4) (sF a 4 (100, 4) (sF a 3 (100, 6) (sF a 2 (100, 6) (sF a 1 (100, 6) (sF a 0 (100, 6) S)))))))
  have h8 := sO_mono mono_X0 a 8 (0, 0) (sO i_X6 a 7 (6, 0) (sF a 6 (100, 3) (sF a 5 (100, 4) (sF a 4 (100, 4) (sF a 3 (100, 6) (sF a 2 (100, 6) (sF a 1 (100, 6) (sF a 0 (100, 6) S))))))))
  refine ⟨by omega, fun b hb => ?_⟩
  rw [h8.2 b (by omega), h7.2 b (by omega), h6.2 b (by omega), h5.2 b (by omega), h4.2 b (by omega), h3.2 b (by omega), h2.2 b (by omega), h1.2 b (by omega), h0.2 b (by omega)]
theorem ci_X3 (X : zX) (B d : Nat) (hd : 2 ≤ d) (a : Nat) (S : zN) (hl0 : S.1.length + 18 ≤ 1000) (ha : a < S.1.length) (hg : zgd S a = (3, 0)) : zCI X B d M_X3_init a S (i_X3 a S) 18 112 := by
  refine n_entry (by decide +kernel) T_X3_init rfl (by omega) (by omega) (by decide) ?_
  unfold i_X3
  show zGn X B (zrn d 18 112) M_X3_init 18 112 _ 0 [some (.ref a)] [] S 0 0
  refine n_aload0 0 1 rfl rfl ?_
  refine n_objInit 1 4 rfl rfl (zTT_in (i := 239) (by decide +kernel) rfl) ⟨by show 1 ≤ d; omega, by show 40 ≤ 40 * d; omega⟩ rfl ?_
  refine n_aload0 2 5 rfl rfl ?_
  refine n_bipush 3 7 rfl rfl (v := 6) (by decide) ?_
  refine n_newI 4 9 rfl rfl (N := 6) (by decide) (by decide) (by decide) (by omega) (by show _ ≤ 18; omega) (by show _ ≤ 112; omega) ?_
  refine n_putF 5 12 0 rfl rfl zf_X3_9 rfl rfl (fun z => ⟨rfl, rfl⟩) (by omega) (by omega) hg ?_
  obtain ⟨hm1, hm2⟩ := sF_mono a 0 (100, 6) S
  have hg2 := (hm2 a ha).trans hg
  generalize sF a 0 (100, 6) S = S1 at hm1 hg2 ⊢
  clear hm2
  have ha2 : a < S1.1.length := by omega
  replace hg := hg2
  replace ha := ha2
  clear hg2 ha2
  refine n_aload0 6 13 rfl rfl ?_
  refine n_bipush 7 15 rfl rfl (v := 6) (by decide) ?_
  refine n_newI 8 17 rfl rfl (N := 6) (by decide) (by decide) (by decide) (by omega) (by show _ ≤ 18; omega) (by show _ ≤ 112; omega) ?_
  refine n_putF 9 20 1 rfl rfl zf_X3_15 rfl rfl (fun z => ⟨rfl, rfl⟩) (by omega) (by omega) hg ?_
  obtain ⟨hm1, hm2⟩ := sF_mono a 1 (100, 6) S1
  have hg2 := (hm2 a ha).trans hg
  generalize sF a 1 (100, 6) S1 = S2 at hm1 hg2 ⊢
  clear hm2
  have ha2 : a < S2.1.length := by omega
  replace hg := hg2
  replace ha := ha2
  clear hg2 ha2
  refine n_aload0 10 21 rfl rfl ?_
  refine n_bipush 11 23 rfl rfl (v := 6) (by decide) ?_
  refine n_newI 12 25 rfl rfl (N := 6) (by decide) (by decide) (by decide) (by omega) (by show _ ≤ 18; omega) (by show _ ≤ 112; omega) ?_
  refine n_putF 13 28 2 rfl rfl zf_X3_18 rfl rfl (fun z => ⟨rfl, rfl⟩) (by omega) (by omega) hg ?_
  obtain ⟨hm1, hm2⟩ := sF_mono a 2 (100, 6) S2
  have hg2 := (hm2 a ha).trans hg
  generalize sF a 2 (100, 6) S2 = S3 at hm1 hg2 ⊢
  clear hm2
  have ha2 : a < S3.1.length := by omega
  replace hg := hg2
  replace ha := ha2
  clear hg2 ha2
  refine n_aload0 14 29 rfl rfl ?_
  refine n_bipush 15 31 rfl rfl (v := 6) (by decide) ?_
  refine n_newI 16 33 rfl rfl (N := 6) (by decide) (by decide) (by decide) (by omega) (by show _ ≤ 18; omega) (by show _ ≤ 112; omega) ?_
  refine n_putF 17 36 3 rfl rfl zf_X3_21 rfl rfl (fun z => ⟨rfl, rfl⟩) (by omega) (by omega) hg ?_
  obtain ⟨hm1, hm2⟩ := sF_mono a 3 (100, 6) S3
  have hg2 := (hm2 a ha).trans hg
  generalize sF a 3 (100, 6) S3 = S4 at hm1 hg2 ⊢
  clear hm2
  have ha2 : a < S4.1.length := by omega
  replace hg := hg2
  replace ha := ha2
  clear hg2 ha2
  refine n_aload0 18 37 rfl rfl ?_
  refine n_iconst 19 38 rfl rfl (v := 4) (by decide) ?_
  refine n_newI 20 40 rfl rfl (N := 4) (by decide) (by decide) (by decide) (by omega) (by show _ ≤ 18; omega) (by show _ ≤ 112; omega) ?_
  refine n_putF 21 43 4 rfl rfl zf_X3_24 rfl rfl (fun z => ⟨rfl, rfl⟩) (by omega) (by omega) hg ?_
  obtain ⟨hm1, hm2⟩ := sF_mono a 4 (100, 4) S4
  have hg2 := (hm2 a ha).trans hg
  generalize sF a 4 (100, 4) S4 = S5 at hm1 hg2 ⊢
  clear hm2
  have ha2 : a < S5.1.length := by omega
  replace hg := hg2
  replace ha := ha2
  clear hg2 ha2
  refine n_aload0 22 44 rfl rfl ?_
  refine n_iconst 23 45 rfl rfl (v := 4) (by decide) ?_
  refine n_newI 24 47 rfl rfl (N := 4) (by decide) (by decide) (by decide) (by omega) (by show _ ≤ 18; omega) (by show _ ≤ 112; omega) ?_
  refine n_putF 25 50 5 rfl rfl zf_X3_27 rfl rfl (fun z => ⟨rfl, rfl⟩) (by omega) (by omega) hg ?_
  obtain ⟨hm1, hm2⟩ := sF_mono a 5 (100, 4) S5
  have hg2 := (hm2 a ha).trans hg
  generalize sF a 5 (100, 4) S5 = S6 at hm1 hg2 ⊢
  clear hm2
  have ha2 : a < S6.1.length := by omega
  replace hg := hg2
  replace ha := ha2
  clear hg2 ha2
  refine n_aload0 26 51 rfl rfl ?_
  refine n_iconst 27 52 rfl rfl (v := 3) (by decide) ?_
  refine n_newI 28 54 rfl rfl (N := 3) (by decide) (by decide) (by decide) (by omega) (by show _ ≤ 18; omega) (by show _ ≤ 112; omega) ?_
  refine n_putF 29 57 6 rfl rfl zf_X3_30 rfl rfl (fun z => ⟨rfl, rfl⟩) (by omega) (by omega) hg ?_
  obtain ⟨hm1, hm2⟩ := sF_mono a 6 (100, 3) S6
  have hg2 := (hm2 a ha).trans hg
  generalize sF a 6 (100, 3) S6 = S7 at hm1 hg2 ⊢
  clear hm2
  have ha2 : a < S7.1.length := by omega
  replace hg := hg2
  replace ha := ha2
  clear hg2 ha2
  refine n_aload0 30 58 rfl rfl ?_
  refine n_newP 31 61 rfl rfl (N := 8) zc_6 (zTT_in (i := 240) (by decide +kernel) rfl) zin_6 zit_6 zdv_6 rfl (by omega) (by show _ ≤ 18; omega) (by show _ ≤ 112; omega) ?_
  refine n_dup 32 62 rfl rfl rfl ?_
  refine n_callI 33 65 rfl rfl (List.mem_of_getElem? (i := 4) rfl) F_X6_init (d := d - 1) ⟨by show d - 1 + 1 ≤ d; omega, by show 40 * (d - 1 + 1) ≤ 40 * d; omega⟩ (ci_X6 X B (d - 1) (by omega) _ _ (by rw [(sA_mono _ _).1]; omega) (by rw [(sA_mono _ _).1]; omega) (sA_new _ _)) (mono_X6 _ _).1 (by rw [(mono_X6 _ _).1, (sA_mono _ _).1]; omega) rfl (Nat.le_of_ble_eq_true rfl) ⟨by show _ ≤ 18; omega, by show _ ≤ 112; omega⟩ ?_
  refine n_putO 34 68 7 mono_X6 rfl rfl zf_X3_36 rfl rfl (fun z => ⟨rfl, rfl⟩) (by omega) (by omega) hg ?_
  obtain ⟨hm1, hm2⟩ := sO_mono mono_X6 a 7 (6, 0) S7
  have hg2 := (hm2 a ha).trans hg
  generalize sO i_X6 a 7 (6, 0) S7 = S8 at hm1 hg2 ⊢
  clear hm2
  have ha2 : a < S8.1.length := by omega
  replace hg := hg2
  replace ha := ha2
  clear hg2 ha2
  refine n_aload0 35 69 rfl rfl ?_
  refine n_newP 36 72 rfl rfl (N := 5) zc_0 (zTT_in (i := 280) (by decide +kernel) rfl) zin_0 zit_0 zdv_0 rfl (by omega) (by show _ ≤ 18; omega) (by show _ ≤ 112; omega) ?_
  refine n_dup 37 73 rfl rfl rfl ?_
  refine n_callI 38 76 rfl rfl (List.mem_of_getElem? (i := 5) rfl) F_X0_init (d := d - 1) ⟨by show d - 1 + 1 ≤ d; omega, by show 40 * (d - 1 + 1) ≤ 40 * d; omega⟩ (ci_X0 X B (d - 1) (by omega) _ _ (by rw [(sA_mono _ _).1]; omega) (by rw [(sA_mono _ _).1]; omega) (sA_new _ _)) (mono_X0 _ _).1 (by rw [(mono_X0 _ _).1, (sA_mono _ _).1]; omega) rfl (Nat.le_of_ble_eq_true rfl) ⟨by show _ ≤ 18; omega, by show _ ≤ 112; omega⟩ ?_
  refine n_putO 39 79 8 mono_X0 rfl rfl zf_X3_43 rfl rfl (fun z => ⟨rfl, rfl⟩) (by omega) (by omega) hg ?_
  obtain ⟨hm1, hm2⟩ := sO_mono mono_X0 a 8 (0, 0) S8
  have hg2 := (hm2 a ha).trans hg
  generalize sO i_X0 a 8 (0, 0) S8 = S9 at hm1 hg2 ⊢
  clear hm2
  have ha2 : a < S9.1.length := by omega
  replace hg := hg2
  replace ha := ha2
  clear hg2 ha2
  exact n_vret 40 rfl rfl rfl rfl
def M_X4_init : zM := (⟨RX4, "<init>", "()V"⟩, prog_6_method_1_code, 1, none, [(0, .aload_n 0, 1), (1, .invokespecial 3, 3), (4, .aload_n 0, 1), (5, .bipush 14, 2), (7, .newarray .int, 2), (9, .putfield 11, 3), (12, .aload_n 0, 1), (13, .bipush 14, 2), (15, .newarray .int, 2), (17, .putfield 15, 3), (20, .aload_n 0, 1), (21, .bipush 14, 2), (23, .newarray .int, 2), (25, .putfield 18, 3), (28, .aload_n 0, 1), (29, .bipush 14, 2), (31, .newarray .int, 2), (33, .putfield 21, 3), (36, .return_, 1)])
theorem T_X4_init : zT M_X4_init := zT_of (by decide +kernel)
theorem F_X4_init : zMI M_X4_init := ⟨⟨zTT_in (i := 212) (by decide +kernel) rfl, zit_4, ⟨by decide, by decide, by decide +kernel⟩, by decide⟩, zTT_in (i := 211) (by decide +kernel) rfl, rfl, rfl⟩
def i_X4 (a : Nat) (S : zN) : zN := sF a 3 (100, 14) (sF a 2 (100, 14) (sF a 1 (100, 14) (sF a 0 (100, 14) S)))
theorem mono_X4 : zmono i_X4 4 := by
  intro a S
  unfold i_X4
  have h0 := sF_mono a 0 (100, 14) S
  have h1 := sF_mono a 1 (100, 14) (sF a 0 (100, 14) S)
  have h2 := sF_mono a 2 (100, 14) (sF a 1 (100, 14) (sF a 0 (100, 14) S))
  have h3 := sF_mono a 3 (100, 14) (sF a 2 (100, 14) (sF a 1 (100, 14) (sF a 0 (100, 14) S)))
  refine ⟨by omega, fun b hb => ?_⟩
  rw [h3.2 b (by omega), h2.2 b (by omega), h1.2 b (by omega), h0.2 b (by omega)]
theorem ci_X4 (X : zX) (B d : Nat) (hd : 1 ≤ d) (a : Nat) (S : zN) (hl0 : S.1.length + 4 ≤ 1000) (ha : a < S.1.length) (hg : zgd S a = (4, 0)) : zCI X B d M_X4_init a S (i_X4 a S) 4 56 := by
  refine n_entry (by decide +kernel) T_X4_init rfl (by omega) (by omega) (by decide) ?_
  unfold i_X4
  show zGn X B (zrn d 4 56) M_X4_init 4 56 _ 0 [some (.ref a)] [] S 0 0
  refine n_aload0 0 1 rfl rfl ?_
  refine n_objInit 1 4 rfl rfl (zTT_in (i := 213) (by decide +kernel) rfl) ⟨by show 1 ≤ d; omega, by show 40 ≤ 40 * d; omega⟩ rfl ?_
  refine n_aload0 2 5 rfl rfl ?_
  refine n_bipush 3 7 rfl rfl (v := 14) (by decide) ?_
  refine n_newI 4 9 rfl rfl (N := 14) (by decide) (by decide) (by decide) (by omega) (by show _ ≤ 4; omega) (by show _ ≤ 56; omega) ?_
  refine n_putF 5 12 0 rfl rfl zf_X4_11 rfl rfl (fun z => ⟨rfl, rfl⟩) (by omega) (by omega) hg ?_
  obtain ⟨hm1, hm2⟩ := sF_mono a 0 (100, 14) S
  have hg2 := (hm2 a ha).trans hg
  generalize sF a 0 (100, 14) S = S1 at hm1 hg2 ⊢
  clear hm2
  have ha2 : a < S1.1.length := by omega
  replace hg := hg2
  replace ha := ha2
  clear hg2 ha2
  refine n_aload0 6 13 rfl rfl ?_
  refine n_bipush 7 15 rfl rfl (v := 14) (by decide) ?_
  refine n_newI 8 17 rfl rfl (N := 14) (by decide) (by decide) (by decide) (by omega) (by show _ ≤ 4; omega) (by show _ ≤ 56; omega) ?_
  refine n_putF 9 20 1 rfl rfl zf_X4_15 rfl rfl (fun z => ⟨rfl, rfl⟩) (by omega) (by omega) hg ?_
  obtain ⟨hm1, hm2⟩ := sF_mono a 1 (100, 14) S1
  have hg2 := (hm2 a ha).trans hg
  generalize sF a 1 (100, 14) S1 = S2 at hm1 hg2 ⊢
  clear hm2
  have ha2 : a < S2.1.length := by omega
  replace hg := hg2
  replace ha := ha2
  clear hg2 ha2
  refine n_aload0 10 21 rfl rfl ?_
  refine n_bipush 11 23 rfl rfl (v := 14) (by decide) ?_
  refine n_newI 12 25 rfl rfl (N := 14) (by decide) (by decide) (by decide) (by omega) (by show _ ≤ 4; omega) (by show _ ≤ 56; omega) ?_
  refine n_putF 13 28 2 rfl rfl zf_X4_18 rfl rfl (fun z => ⟨rfl, rfl⟩) (by omega) (by omega) hg ?_
  obtain ⟨hm1, hm2⟩ := sF_mono a 2 (100, 14) S2
  have hg2 := (hm2 a ha).trans hg
  generalize sF a 2 (100, 14) S2 = S3 at hm1 hg2 ⊢
  clear hm2
  have ha2 : a < S3.1.length := by omega
  replace hg := hg2
  replace ha := ha2
  clear hg2 ha2
  refine n_aload0 14 29 rfl rfl ?_
  refine n_bipush 15 31 rfl rfl (v := 14) (by decide) ?_
  refine n_newI 16 33 rfl rfl (N := 14) (by decide) (by decide) (by decide) (by omega) (by show _ ≤ 4; omega) (by show _ ≤ 56; omega) ?_
  refine n_putF 17 36 3 rfl rfl zf_X4_21 rfl rfl (fun z => ⟨rfl, rfl⟩) (by omega) (by omega) hg ?_
  obtain ⟨hm1, hm2⟩ := sF_mono a 3 (100, 14) S3
  have hg2 := (hm2 a ha).trans hg
  generalize sF a 3 (100, 14) S3 = S4 at hm1 hg2 ⊢
  clear hm2
  have ha2 : a < S4.1.length := by omega
  replace hg := hg2
  replace ha := ha2
  clear hg2 ha2
  exact n_vret 18 rfl rfl rfl rfl
def M_X9_init : zM := (⟨RX9, "<init>", "()V"⟩, prog_11_method_1_code, 1, none, [(0, .aload_n 0, 1), (1, .invokespecial 3, 3), (4, .aload_n 0, 1), (5, .sipush 900, 3), (8, .newarray .byte, 2), (10, .putfield 9, 3), (13, .return_, 1)])
theorem T_X9_init : zT M_X9_init := zT_of (by decide +kernel)
theorem F_X9_init : zMI M_X9_init := ⟨⟨zTT_in (i := 177) (by decide +kernel) rfl, zit_9, ⟨by decide, by decide, by decide +kernel⟩, by decide⟩, zTT_in (i := 176) (by decide +kernel) rfl, rfl, rfl⟩
def i_X9 (a : Nat) (S : zN) : zN := sF a 0 (101, 900) S
theorem mono_X9 : zmono i_X9 1 := by
  intro a S
  unfold i_X9
  have h0 := sF_mono a 0 (101, 900) S
  refine ⟨by omega, fun b hb => ?_⟩
  rw [h0.2 b (by omega)]
theorem ci_X9 (X : zX) (B d : Nat) (hd : 1 ≤ d) (a : Nat) (S : zN) (hl0 : S.1.length + 1 ≤ 1000) (ha : a < S.1.length) (hg : zgd S a = (9, 0)) : zCI X B d M_X9_init a S (i_X9 a S) 1 900 := by
  refine n_entry (by decide +kernel) T_X9_init rfl (by omega) (by omega) (by decide) ?_
  unfold i_X9
  show zGn X B (zrn d 1 900) M_X9_init 1 900 _ 0 [some (.ref a)] [] S 0 0
  refine n_aload0 0 1 rfl rfl ?_
  refine n_objInit 1 4 rfl rfl (zTT_in (i := 178) (by decide +kernel) rfl) ⟨by show 1 ≤ d; omega, by show 40 ≤ 40 * d; omega⟩ rfl ?_
  refine n_aload0 2 5 rfl rfl ?_
  refine n_sipush 3 8 rfl rfl (v := 900) (by decide) ?_
  refine n_newB 4 10 rfl rfl (N := 900) (by decide) (by decide) (by decide) (by omega) (by show _ ≤ 1; omega) (by show _ ≤ 900; omega) ?_
  refine n_putF 5 13 0 rfl rfl zf_X9_9 rfl rfl (fun z => ⟨rfl, rfl⟩) (by omega) (by omega) hg ?_
  obtain ⟨hm1, hm2⟩ := sF_mono a 0 (101, 900) S
  have hg2 := (hm2 a ha).trans hg
  generalize sF a 0 (101, 900) S = S1 at hm1 hg2 ⊢
  clear hm2
  have ha2 : a < S1.1.length := by omega
  replace hg := hg2
  replace ha := ha2
  clear hg2 ha2
  exact n_vret 6 rfl rfl rfl rfl
def M_X8_init : zM := (⟨RX8, "<init>", "()V"⟩, prog_10_method_1_code, 1, none, [(0, .aload_n 0, 1), (1, .invokespecial 3, 3), (4, .aload_n 0, 1), (5, .new 9, 3), (8, .dup, 1), (9, .invokespecial 11, 3), (12, .putfield 12, 3), (15, .aload_n 0, 1), (16, .new 18, 3), (19, .dup, 1), (20, .invokespecial 20, 3), (23, .putfield 21, 3), (26, .aload_n 0, 1), (27, .new 25, 3), (30, .dup, 1), (31, .invokespecial 27, 3), (34, .putfield 28, 3), (37, .return_, 1)])
theorem T_X8_init : zT M_X8_init := zT_of (by decide +kernel)
theorem F_X8_init : zMI M_X8_init := ⟨⟨zTT_in (i := 171) (by decide +kernel) rfl, zit_8, ⟨by decide, by decide, by decide +kernel⟩, by decide⟩, zTT_in (i := 170) (by decide +kernel) rfl, rfl, rfl⟩
def i_X8 (a : Nat) (S : zN) : zN := sO i_X3 a 2 (3, 0) (sO i_X4 a 1 (4, 0) (sO i_X9 a 0 (9, 0) S))
theorem mono_X8 : zmono i_X8 26 := by
  intro a S
  unfold i_X8
  have h0 := sO_mono mono_X9 a 0 (9, 0) S
  have h1 := sO_mono mono_X4 a 1 (4, 0) (sO i_X9 a 0 (9, 0) S)
  have h2 := sO_mono mono_X3 a 2 (3, 0) (sO i_X4 a 1 (4, 0) (sO i_X9 a 0 (9, 0) S))
  refine ⟨by omega, fun b hb => ?_⟩
  rw [h2.2 b (by omega), h1.2 b (by omega), h0.2 b (by omega)]
theorem ci_X8 (X : zX) (B d : Nat) (hd : 3 ≤ d) (a : Nat) (S : zN) (hl0 : S.1.length + 26 ≤ 1000) (ha : a < S.1.length) (hg : zgd S a = (8, 0)) : zCI X B d M_X8_init a S (i_X8 a S) 26 1096 := by
  refine n_entry (by decide +kernel) T_X8_init rfl (by omega) (by omega) (by decide) ?_
  unfold i_X8
  show zGn X B (zrn d 26 1096) M_X8_init 26 1096 _ 0 [some (.ref a)] [] S 0 0
  refine n_aload0 0 1 rfl rfl ?_
  refine n_objInit 1 4 rfl rfl (zTT_in (i := 172) (by decide +kernel) rfl) ⟨by show 1 ≤ d; omega, by show 40 ≤ 40 * d; omega⟩ rfl ?_
  refine n_aload0 2 5 rfl rfl ?_
  refine n_newP 3 8 rfl rfl (N := 7) zc_9 (zTT_in (i := 173) (by decide +kernel) rfl) zin_9 zit_9 zdv_9 rfl (by omega) (by show _ ≤ 26; omega) (by show _ ≤ 1096; omega) ?_
  refine n_dup 4 9 rfl rfl rfl ?_
  refine n_callI 5 12 rfl rfl (List.mem_of_getElem? (i := 1) rfl) F_X9_init (d := d - 1) ⟨by show d - 1 + 1 ≤ d; omega, by show 40 * (d - 1 + 1) ≤ 40 * d; omega⟩ (ci_X9 X B (d - 1) (by omega) _ _ (by rw [(sA_mono _ _).1]; omega) (by rw [(sA_mono _ _).1]; omega) (sA_new _ _)) (mono_X9 _ _).1 (by rw [(mono_X9 _ _).1, (sA_mono _ _).1]; omega) rfl (Nat.le_of_ble_eq_true rfl) ⟨by show _ ≤ 26; omega, by show _ ≤ 1096; omega⟩ ?_
  refine n_putO 6 15 0 mono_X9 rfl rfl zf_X8_12 rfl rfl (fun z => ⟨rfl, rfl⟩) (by omega) (by omega) hg ?_
  obtain ⟨hm1, hm2⟩ := sO_mono mono_X9 a 0 (9, 0) S
  have hg2 := (hm2 a ha).trans hg
  generalize sO i_X9 a 0 (9, 0) S = S1 at hm1 hg2 ⊢
  clear hm2
  have ha2 : a < S1.1.length := by omega
  replace hg := hg2
  replace ha := ha2
  clear hg2 ha2
  refine n_aload0 7 16 rfl rfl ?_
  refine n_newP 8 19 rfl rfl (N := 5) zc_4 (zTT_in (i := 208) (by decide +kernel) rfl) zin_4 zit_4 zdv_4 rfl (by omega) (by show _ ≤ 26; omega) (by show _ ≤ 1096; omega) ?_
  refine n_dup 9 20 rfl rfl rfl ?_
  refine n_callI 10 23 rfl rfl (List.mem_of_getElem? (i := 2) rfl) F_X4_init (d := d - 1) ⟨by show d - 1 + 1 ≤ d; omega, by show 40 * (d - 1 + 1) ≤ 40 * d; omega⟩ (ci_X4 X B (d - 1) (by omega) _ _ (by rw [(sA_mono _ _).1]; omega) (by rw [(sA_mono _ _).1]; omega) (sA_new _ _)) (mono_X4 _ _).1 (by rw [(mono_X4 _ _).1, (sA_mono _ _).1]; omega) rfl (Nat.le_of_ble_eq_true rfl) ⟨by show _ ≤ 26; omega, by show _ ≤ 1096; omega⟩ ?_
  refine n_putO 11 26 1 mono_X4 rfl rfl zf_X8_21 rfl rfl (fun z => ⟨rfl, rfl⟩) (by omega) (by omega) hg ?_
  obtain ⟨hm1, hm2⟩ := sO_mono mono_X4 a 1 (4, 0) S1
  have hg2 := (hm2 a ha).trans hg
  generalize sO i_X4 a 1 (4, 0) S1 = S2 at hm1 hg2 ⊢
  clear hm2
  have ha2 : a < S2.1.length := by omega
  replace hg := hg2
  replace ha := ha2
  clear hg2 ha2
  refine n_aload0 12 27 rfl rfl ?_
  refine n_newP 13 30 rfl rfl (N := 16) zc_3 (zTT_in (i := 234) (by decide +kernel) rfl) zin_3 zit_3 zdv_3 rfl (by omega) (by show _ ≤ 26; omega) (by show _ ≤ 1096; omega) ?_
  refine n_dup 14 31 rfl rfl rfl ?_
  refine n_callI 15 34 rfl rfl (List.mem_of_getElem? (i := 3) rfl) F_X3_init (d := d - 1) ⟨by show d - 1 + 1 ≤ d; omega, by show 40 * (d - 1 + 1) ≤ 40 * d; omega⟩ (ci_X3 X B (d - 1) (by omega) _ _ (by rw [(sA_mono _ _).1]; omega) (by rw [(sA_mono _ _).1]; omega) (sA_new _ _)) (mono_X3 _ _).1 (by rw [(mono_X3 _ _).1, (sA_mono _ _).1]; omega) rfl (Nat.le_of_ble_eq_true rfl) ⟨by show _ ≤ 26; omega, by show _ ≤ 1096; omega⟩ ?_
  refine n_putO 16 37 2 mono_X3 rfl rfl zf_X8_28 rfl rfl (fun z => ⟨rfl, rfl⟩) (by omega) (by omega) hg ?_
  obtain ⟨hm1, hm2⟩ := sO_mono mono_X3 a 2 (3, 0) S2
  have hg2 := (hm2 a ha).trans hg
  generalize sO i_X3 a 2 (3, 0) S2 = S3 at hm1 hg2 ⊢
  clear hm2
  have ha2 : a < S3.1.length := by omega
  replace hg := hg2
  replace ha := ha2
  clear hg2 ha2
  exact n_vret 17 rfl rfl rfl rfl
def M_X5_init : zM := (⟨RX5, "<init>", "()V"⟩, prog_7_method_1_code, 1, none, [(0, .aload_n 0, 1), (1, .invokespecial 3, 3), (4, .aload_n 0, 1), (5, .bipush 6, 2), (7, .newarray .int, 2), (9, .putfield 9, 3), (12, .return_, 1)])
theorem T_X5_init : zT M_X5_init := zT_of (by decide +kernel)
theorem F_X5_init : zMI M_X5_init := ⟨⟨zTT_in (i := 417) (by decide +kernel) rfl, zit_5, ⟨by decide, by decide, by decide +kernel⟩, by decide⟩, zTT_in (i := 416) (by decide +kernel) rfl, rfl, rfl⟩
def i_X5 (a : Nat) (S : zN) : zN := sF a 0 (100, 6) S
theorem mono_X5 : zmono i_X5 1 := by
  intro a S
  unfold i_X5
  have h0 := sF_mono a 0 (100, 6) S
  refine ⟨by omega, fun b hb => ?_⟩
  rw [h0.2 b (by omega)]
theorem ci_X5 (X : zX) (B d : Nat) (hd : 1 ≤ d) (a : Nat) (S : zN) (hl0 : S.1.length + 1 ≤ 1000) (ha : a < S.1.length) (hg : zgd S a = (5, 0)) : zCI X B d M_X5_init a S (i_X5 a S) 1 6 := by
  refine n_entry (by decide +kernel) T_X5_init rfl (by omega) (by omega) (by decide) ?_
  unfold i_X5
  show zGn X B (zrn d 1 6) M_X5_init 1 6 _ 0 [some (.ref a)] [] S 0 0
  refine n_aload0 0 1 rfl rfl ?_
  refine n_objInit 1 4 rfl rfl (zTT_in (i := 418) (by decide +kernel) rfl) ⟨by show 1 ≤ d; omega, by show 40 ≤ 40 * d; omega⟩ rfl ?_
  refine n_aload0 2 5 rfl rfl ?_
  refine n_bipush 3 7 rfl rfl (v := 6) (by decide) ?_
  refine n_newI 4 9 rfl rfl (N := 6) (by decide) (by decide) (by decide) (by omega) (by show _ ≤ 1; omega) (by show _ ≤ 6; omega) ?_
  refine n_putF 5 12 0 rfl rfl zf_X5_9 rfl rfl (fun z => ⟨rfl, rfl⟩) (by omega) (by omega) hg ?_
  obtain ⟨hm1, hm2⟩ := sF_mono a 0 (100, 6) S
  have hg2 := (hm2 a ha).trans hg
  generalize sF a 0 (100, 6) S = S1 at hm1 hg2 ⊢
  clear hm2
  have ha2 : a < S1.1.length := by omega
  replace hg := hg2
  replace ha := ha2
  clear hg2 ha2
  exact n_vret 6 rfl rfl rfl rfl
def M_X7_init : zM := (⟨RX7, "<init>", "()V"⟩, prog_9_method_1_code, 1, none, [(0, .aload_n 0, 1), (1, .invokespecial 3, 3), (4, .aload_n 0, 1), (5, .bipush 16, 2), (7, .newarray .int, 2), (9, .putfield 9, 3), (12, .aload_n 0, 1), (13, .bipush 16, 2), (15, .newarray .int, 2), (17, .putfield 15, 3), (20, .return_, 1)])
theorem T_X7_init : zT M_X7_init := zT_of (by decide +kernel)
theorem F_X7_init : zMI M_X7_init := ⟨⟨zTT_in (i := 434) (by decide +kernel) rfl, zit_7, ⟨by decide, by decide, by decide +kernel⟩, by decide⟩, zTT_in (i := 433) (by decide +kernel) rfl, rfl, rfl⟩
def i_X7 (a : Nat) (S : zN) : zN := sF a 1 (100, 16) (sF a 0 (100, 16) S)
theorem mono_X7 : zmono i_X7 2 := by
  intro a S
  unfold i_X7
  have h0 := sF_mono a 0 (100, 16) S
  have h1 := sF_mono a 1 (100, 16) (sF a 0 (100, 16) S)
  refine ⟨by omega, fun b hb => ?_⟩
  rw [h1.2 b (by omega), h0.2 b (by omega)]
theorem ci_X7 (X : zX) (B d : Nat) (hd : 1 ≤ d) (a : Nat) (S : zN) (hl0 : S.1.length + 2 ≤ 1000) (ha : a < S.1.length) (hg : zgd S a = (7, 0)) : zCI X B d M_X7_init a S (i_X7 a S) 2 32 := by
  refine n_entry (by decide +kernel) T_X7_init rfl (by omega) (by omega) (by decide) ?_
  unfold i_X7
  show zGn X B (zrn d 2 32) M_X7_init 2 32 _ 0 [some (.ref a)] [] S 0 0
  refine n_aload0 0 1 rfl rfl ?_
  refine n_objInit 1 4 rfl rfl (zTT_in (i := 435) (by decide +kernel) rfl) ⟨by show 1 ≤ d; omega, by show 40 ≤ 40 * d; omega⟩ rfl ?_
  refine n_aload0 2 5 rfl rfl ?_
  refine n_bipush 3 7 rfl rfl (v := 16) (by decide) ?_
  refine n_newI 4 9 rfl rfl (N := 16) (by decide) (by decide) (by decide) (by omega) (by show _ ≤ 2; omega) (by show _ ≤ 32; omega) ?_
  refine n_putF 5 12 0 rfl rfl zf_X7_9 rfl rfl (fun z => ⟨rfl, rfl⟩) (by omega) (by omega) hg ?_
  obtain ⟨hm1, hm2⟩ := sF_mono a 0 (100, 16) S
  have hg2 := (hm2 a ha).trans hg
  generalize sF a 0 (100, 16) S = S1 at hm1 hg2 ⊢
  clear hm2
  have ha2 : a < S1.1.length := by omega
  replace hg := hg2
  replace ha := ha2
  clear hg2 ha2
  refine n_aload0 6 13 rfl rfl ?_
  refine n_bipush 7 15 rfl rfl (v := 16) (by decide) ?_
  refine n_newI 8 17 rfl rfl (N := 16) (by decide) (by decide) (by decide) (by omega) (by show _ ≤ 2; omega) (by show _ ≤ 32; omega) ?_
  refine n_putF 9 20 1 rfl rfl zf_X7_15 rfl rfl (fun z => ⟨rfl, rfl⟩) (by omega) (by omega) hg ?_
  obtain ⟨hm1, hm2⟩ := sF_mono a 1 (100, 16) S1
  have hg2 := (hm2 a ha).trans hg
  generalize sF a 1 (100, 16) S1 = S2 at hm1 hg2 ⊢
  clear hm2
  have ha2 : a < S2.1.length := by omega
  replace hg := hg2
  replace ha := ha2
  clear hg2 ha2
  exact n_vret 10 rfl rfl rfl rfl
def M_X2_init : zM := (⟨RX2, "<init>", "()V"⟩, prog_4_method_1_code, 1, none, [(0, .aload_n 0, 1), (1, .invokespecial 3, 3), (4, .aload_n 0, 1), (5, .sipush 729, 3), (8, .newarray .int, 2), (10, .putfield 9, 3), (13, .aload_n 0, 1), (14, .bipush 27, 2), (16, .newarray .int, 2), (18, .putfield 15, 3), (21, .aload_n 0, 1), (22, .iconst 4, 1), (23, .newarray .int, 2), (25, .putfield 18, 3), (28, .aload_n 0, 1), (29, .iconst 4, 1), (30, .newarray .int, 2), (32, .putfield 21, 3), (35, .aload_n 0, 1), (36, .iconst 4, 1), (37, .newarray .int, 2), (39, .putfield 24, 3), (42, .aload_n 0, 1), (43, .iconst 4, 1), (44, .newarray .int, 2), (46, .putfield 27, 3), (49, .return_, 1)])
theorem T_X2_init : zT M_X2_init := zT_of (by decide +kernel)
theorem F_X2_init : zMI M_X2_init := ⟨⟨zTT_in (i := 453) (by decide +kernel) rfl, zit_2, ⟨by decide, by decide, by decide +kernel⟩, by decide⟩, zTT_in (i := 452) (by decide +kernel) rfl, rfl, rfl⟩
def i_X2 (a : Nat) (S : zN) : zN := sF a 5 (100, 4) (sF a 4 (100, 4) (sF a 3 (100, 4) (sF a 2 (100, 4) (sF a 1 (100, 27) (sF a 0 (100, 729) S)))))
theorem mono_X2 : zmono i_X2 6 := by
  intro a S
  unfold i_X2
  have h0 := sF_mono a 0 (100, 729) S
  have h1 := sF_mono a 1 (100, 27) (sF a 0 (100, 729) S)
  have h2 := sF_mono a 2 (100, 4) (sF a 1 (100, 27) (sF a 0 (100, 729) S))
  have h3 := sF_mono a 3 (100, 4) (sF a 2 (100, 4) (sF a 1 (100, 27) (sF a 0 (100, 729) S)))
  have h4 := sF_mono a 4 (100, 4) (sF a 3 (100, 4) (sF a 2 (100, 4) (sF a 1 (100, 27) (sF a 0 (100, 729) S))))
  have h5 := sF_mono a 5 (100, 4) (sF a 4 (100, 4) (sF a 3 (100, 4) (sF a 2 (100, 4) (sF a 1 (100, 27) (sF a 0 (100, 729) S)))))
  refine ⟨by omega, fun b hb => ?_⟩
  rw [h5.2 b (by omega), h4.2 b (by omega), h3.2 b (by omega), h2.2 b (by omega), h1.2 b (by omega), h0.2 b (by omega)]
theorem ci_X2 (X : zX) (B d : Nat) (hd : 1 ≤ d) (a : Nat) (S : zN) (hl0 : S.1.length + 6 ≤ 1000) (ha : a < S.1.length) (hg : zgd S a = (2, 0)) : zCI X B d M_X2_init a S (i_X2 a S) 6 772 := by
  refine n_entry (by decide +kernel) T_X2_init rfl (by omega) (by omega) (by decide) ?_
  unfold i_X2
  show zGn X B (zrn d 6 772) M_X2_init 6 772 _ 0 [some (.ref a)] [] S 0 0
  refine n_aload0 0 1 rfl rfl ?_
  refine n_objInit 1 4 rfl rfl (zTT_in (i := 454) (by decide +kernel) rfl) ⟨by show 1 ≤ d; omega, by show 40 ≤ 40 * d; omega⟩ rfl ?_
  refine n_aload0 2 5 rfl rfl ?_
  refine n_sipush 3 8 rfl rfl (v := 729) (by decide) ?_
  refine n_newI 4 10 rfl rfl (N := 729) (by decide) (by decide) (by decide) (by omega) (by show _ ≤ 6; omega) (by show _ ≤ 772; omega) ?_
  refine n_putF 5 13 0 rfl rfl zf_X2_9 rfl rfl (fun z => ⟨rfl, rfl⟩) (by omega) (by omega) hg ?_
  obtain ⟨hm1, hm2⟩ := sF_mono a 0 (100, 729) S
  have hg2 := (hm2 a ha).trans hg
  generalize sF a 0 (100, 729) S = S1 at hm1 hg2 ⊢
  clear hm2
  have ha2 : a < S1.1.length := by omega
  replace hg := hg2
  replace ha := ha2
  clear hg2 ha2
  refine n_aload0 6 14 rfl rfl ?_
  refine n_bipush 7 16 rfl rfl (v := 27) (by decide) ?_
  refine n_newI 8 18 rfl rfl (N := 27) (by decide) (by decide) (by decide) (by omega) (by show _ ≤ 6; omega) (by show _ ≤ 772; omega) ?_
  refine n_putF 9 21 1 rfl rfl zf_X2_15 rfl rfl (fun z => ⟨rfl, rfl⟩) (by omega) (by omega) hg ?_
  obtain ⟨hm1, hm2⟩ := sF_mono a 1 (100, 27) S1
  have hg2 := (hm2 a ha).trans hg
  generalize sF a 1 (100, 27) S1 = S2 at hm1 hg2 ⊢
  clear hm2
  have ha2 : a < S2.1.length := by omega
  replace hg := hg2
  replace ha := ha2
  clear hg2 ha2
  refine n_aload0 10 22 rfl rfl ?_
  refine n_iconst 11 23 rfl rfl (v := 4) (by decide) ?_
  refine n_newI 12 25 rfl rfl (N := 4) (by decide) (by decide) (by decide) (by omega) (by show _ ≤ 6; omega) (by show _ ≤ 772; omega) ?_
  refine n_putF 13 28 2 rfl rfl zf_X2_18 rfl rfl (fun z => ⟨rfl, rfl⟩) (by omega) (by omega) hg ?_
  obtain ⟨hm1, hm2⟩ := sF_mono a 2 (100, 4) S2
  have hg2 := (hm2 a ha).trans hg
  generalize sF a 2 (100, 4) S2 = S3 at hm1 hg2 ⊢
  clear hm2
  have ha2 : a < S3.1.length := by omega
  replace hg := hg2
  replace ha := ha2
  clear hg2 ha2
  refine n_aload0 14 29 rfl rfl ?_
  refine n_iconst 15 30 rfl rfl (v := 4) (by decide) ?_
  refine n_newI 16 32 rfl rfl (N := 4) (by decide) (by decide) (by decide) (by omega) (by show _ ≤ 6; omega) (by show _ ≤ 772; omega) ?_
  refine n_putF 17 35 3 rfl rfl zf_X2_21 rfl rfl (fun z => ⟨rfl, rfl⟩) (by omega) (by omega) hg ?_
  obtain ⟨hm1, hm2⟩ := sF_mono a 3 (100, 4) S3
  have hg2 := (hm2 a ha).trans hg
  generalize sF a 3 (100, 4) S3 = S4 at hm1 hg2 ⊢
  clear hm2
  have ha2 : a < S4.1.length := by omega
  replace hg := hg2
  replace ha := ha2
  clear hg2 ha2
  refine n_aload0 18 36 rfl rfl ?_
  refine n_iconst 19 37 rfl rfl (v := 4) (by decide) ?_
  refine n_newI 20 39 rfl rfl (N := 4) (by decide) (by decide) (by decide) (by omega) (by show _ ≤ 6; omega) (by show _ ≤ 772; omega) ?_
  refine n_putF 21 42 4 rfl rfl zf_X2_24 rfl rfl (fun z => ⟨rfl, rfl⟩) (by omega) (by omega) hg ?_
  obtain ⟨hm1, hm2⟩ := sF_mono a 4 (100, 4) S4
  have hg2 := (hm2 a ha).trans hg
  generalize sF a 4 (100, 4) S4 = S5 at hm1 hg2 ⊢
  clear hm2
  have ha2 : a < S5.1.length := by omega
  replace hg := hg2
  replace ha := ha2
  clear hg2 ha2
  refine n_aload0 22 43 rfl rfl ?_
  refine n_iconst 23 44 rfl rfl (v := 4) (by decide) ?_
  refine n_newI 24 46 rfl rfl (N := 4) (by decide) (by decide) (by decide) (by omega) (by show _ ≤ 6; omega) (by show _ ≤ 772; omega) ?_
  refine n_putF 25 49 5 rfl rfl zf_X2_27 rfl rfl (fun z => ⟨rfl, rfl⟩) (by omega) (by omega) hg ?_
  obtain ⟨hm1, hm2⟩ := sF_mono a 5 (100, 4) S5
  have hg2 := (hm2 a ha).trans hg
  generalize sF a 5 (100, 4) S5 = S6 at hm1 hg2 ⊢
  clear hm2
  have ha2 : a < S6.1.length := by omega
  replace hg := hg2
  replace ha := ha2
  clear hg2 ha2
  exact n_vret 26 rfl rfl rfl rfl
def M_X1_init : zM := (⟨RX1, "<init>", "()V"⟩, prog_3_method_1_code, 1, none, [(0, .aload_n 0, 1), (1, .invokespecial 3, 3), (4, .aload_n 0, 1), (5, .bipush 6, 2), (7, .newarray .int, 2), (9, .putfield 9, 3), (12, .return_, 1)])
theorem T_X1_init : zT M_X1_init := zT_of (by decide +kernel)
theorem F_X1_init : zMI M_X1_init := ⟨⟨zTT_in (i := 493) (by decide +kernel) rfl, zit_1, ⟨by decide, by decide, by decide +kernel⟩, by decide⟩, zTT_in (i := 492) (by decide +kernel) rfl, rfl, rfl⟩
def i_X1 (a : Nat) (S : zN) : zN := sF a 0 (100, 6) S
theorem mono_X1 : zmono i_X1 1 := by
  intro a S
  unfold i_X1
  have h0 := sF_mono a 0 (100, 6) S
  refine ⟨by omega, fun b hb => ?_⟩
  rw [h0.2 b (by omega)]
theorem ci_X1 (X : zX) (B d : Nat) (hd : 1 ≤ d) (a : Nat) (S : zN) (hl0 : S.1.length + 1 ≤ 1000) (ha : a < S.1.length) (hg : zgd S a = (1, 0)) : zCI X B d M_X1_init a S (i_X1 a S) 1 6 := by
  refine n_entry (by decide +kernel) T_X1_init rfl (by omega) (by omega) (by decide) ?_
  unfold i_X1
  show zGn X B (zrn d 1 6) M_X1_init 1 6 _ 0 [some (.ref a)] [] S 0 0
  refine n_aload0 0 1 rfl rfl ?_
  refine n_objInit 1 4 rfl rfl (zTT_in (i := 494) (by decide +kernel) rfl) ⟨by show 1 ≤ d; omega, by show 40 ≤ 40 * d; omega⟩ rfl ?_
  refine n_aload0 2 5 rfl rfl ?_
  refine n_bipush 3 7 rfl rfl (v := 6) (by decide) ?_
  refine n_newI 4 9 rfl rfl (N := 6) (by decide) (by decide) (by decide) (by omega) (by show _ ≤ 1; omega) (by show _ ≤ 6; omega) ?_
  refine n_putF 5 12 0 rfl rfl zf_X1_9 rfl rfl (fun z => ⟨rfl, rfl⟩) (by omega) (by omega) hg ?_
  obtain ⟨hm1, hm2⟩ := sF_mono a 0 (100, 6) S
  have hg2 := (hm2 a ha).trans hg
  generalize sF a 0 (100, 6) S = S1 at hm1 hg2 ⊢
  clear hm2
  have ha2 : a < S1.1.length := by omega
  replace hg := hg2
  replace ha := ha2
  clear hg2 ha2
  exact n_vret 6 rfl rfl rfl rfl
def M_X10_init : zM := (⟨RX10, "<init>", "()V"⟩, prog_1_method_1_code, 2, none, [(0, .aload_n 0, 1), (1, .invokespecial 3, 3), (4, .aload_n 0, 1), (5, .new 9, 3), (8, .dup, 1), (9, .invokespecial 11, 3), (12, .putfield 12, 3), (15, .aload_n 0, 1), (16, .new 16, 3), (19, .dup, 1), (20, .invokespecial 18, 3), (23, .putfield 19, 3), (26, .aload_n 0, 1), (27, .new 16, 3), (30, .dup, 1), (31, .invokespecial 18, 3), (34, .putfield 23, 3), (37, .aload_n 0, 1), (38, .new 26, 3), (41, .dup, 1), (42, .invokespecial 28, 3), (45, .putfield 29, 3), (48, .aload_n 0, 1), (49, .iconst 3, 1), (50, .anewarray 26, 3), (53, .putfield 33, 3), (56, .iconst 0, 1), (57, .istore_n 1, 1), (58, .iload_n 1, 1), (59, .iconst 3, 1), (60, .if_icmp .ge 22, 3), (63, .aload_n 0, 1), (64, .getfield 33, 3), (67, .iload_n 1, 1), (68, .new 26, 3), (71, .dup, 1), (72, .invokespecial 28, 3), (75, .aastore, 1), (76, .iinc 1 1, 3), (79, .goto (-21), 3), (82, .aload_n 0, 1), (83, .new 37, 3), (86, .dup, 1), (87, .invokespecial 39, 3), (90, .putfield 40, 3), (93, .aload_n 0, 1), (94, .new 44, 3), (97, .dup, 1), (98, .invokespecial 46, 3), (101, .putfield 47, 3), (104, .aload_n 0, 1), (105, .new 51, 3), (108, .dup, 1), (109, .invokespecial 53, 3), (112, .putfield 54, 3), (115, .aload_n 0, 1), (116, .new 58, 3), (119, .dup, 1), (120, .invokespecial 60, 3), (123, .putfield 61, 3), (126, .aload_n 0, 1), (127, .iconst (-1), 1), (128, .putfield 65, 3), (131, .return_, 1)])
theorem T_X10_init : zT M_X10_init := zT_of (by decide +kernel)
theorem F_X10_init : zMI M_X10_init := ⟨⟨zTT_in (i := 163) (by decide +kernel) rfl, zit_10, ⟨by decide, by decide, by decide +kernel⟩, by decide⟩, zTT_in (i := 162) (by decide +kernel) rfl, rfl, rfl⟩
def zS0 : zS := (fun _ _ => 0, fun _ _ => 3000)
def i_X10 : zN := let a := 0; let S : zN := ([(10, 0)], zS0); sI a 12 (-1) (sO i_X3 a 8 (3, 0) (sO i_X1 a 7 (1, 0) (sO i_X2 a 6 (2, 0) (sO i_X7 a 5 (7, 0) (sO i_X6 38 2 (6, 0) (sO i_X6 38 1 (6, 0) (sO i_X6 38 0 (6, 0) (sF a 4 (103, 3) (sO i_X6 a 3 (6, 0) (sO i_X5 a 2 (5, 0) (sO i_X5 a 1 (5, 0) (sO i_X8 a 0 (8, 0) S))))))))))))
set_option maxRecDepth 100000 in
set_option maxHeartbeats 4000000 in
theorem ci_X10 (X : zX) (B d : Nat) (hd : 4 ≤ d) : zCI X B d M_X10_init 0 ([(10, 0)], zS0) i_X10 87 2264 := by
  refine n_entry (by decide +kernel) T_X10_init rfl (by decide) (by decide) (by decide) ?_
  show zGn X B (zrn d 87 2264) M_X10_init 87 2264 i_X10 0 [some (.ref 0), none] [] ([(10, 0)], zS0) 0 0
  refine n_aload0 0 1 rfl rfl ?_
  refine n_objInit 1 4 rfl rfl (zTT_in (i := 164) (by decide +kernel) rfl) ⟨by show 1 ≤ d; omega, by show 40 ≤ 40 * d; omega⟩ rfl ?_
  refine n_aload0 2 5 rfl rfl ?_
  refine n_newP 3 8 rfl rfl (N := 5) zc_8 (zTT_in (i := 167) (by decide +kernel) rfl) zin_8 zit_8 zdv_8 rfl (by decide +kernel) (by show _ ≤ 87; omega) (by show _ ≤ 2264; omega) ?_
  refine n_dup 4 9 rfl rfl rfl ?_
  refine n_callI 5 12 rfl rfl (List.mem_of_getElem? (i := 0) rfl) F_X8_init (d := d - 1) ⟨by show d - 1 + 1 ≤ d; omega, by show 40 * (d - 1 + 1) ≤ 40 * d; omega⟩ (ci_X8 X B (d - 1) (by omega) _ _ (by decide +kernel) (by decide +kernel) (by decide +kernel)) (by decide +kernel) (by decide +kernel) rfl (Nat.le_of_ble_eq_true rfl) ⟨by show _ ≤ 87; omega, by show _ ≤ 2264; omega⟩ ?_
  refine n_putO 6 15 0 mono_X8 rfl rfl zf_X10_12 rfl rfl (fun z => ⟨rfl, rfl⟩) (by decide +kernel) (by decide +kernel) (by decide +kernel) ?_
  refine n_aload0 7 16 rfl rfl ?_
  refine n_newP 8 19 rfl rfl (N := 2) zc_5 (zTT_in (i := 413) (by decide +kernel) rfl) zin_5 zit_5 zdv_5 rfl (by decide +kernel) (by show _ ≤ 87; omega) (by show _ ≤ 2264; omega) ?_
  refine n_dup 9 20 rfl rfl rfl ?_
  refine n_callI 10 23 rfl rfl (List.mem_of_getElem? (i := 6) rfl) F_X5_init (d := d - 1) ⟨by show d - 1 + 1 ≤ d; omega, by show 40 * (d - 1 + 1) ≤ 40 * d; omega⟩ (ci_X5 X B (d - 1) (by omega) _ _ (by decide +kernel) (by decide +kernel) (by decide +kernel)) (by decide +kernel) (by decide +kernel) rfl (Nat.le_of_ble_eq_true rfl) ⟨by show _ ≤ 87; omega, by show _ ≤ 2264; omega⟩ ?_
  refine n_putO 11 26 1 mono_X5 rfl rfl zf_X10_19 rfl rfl (fun z => ⟨rfl, rfl⟩) (by decide +kernel) (by decide +kernel) (by decide +kernel) ?_
  refine n_aload0 12 27 rfl rfl ?_
  refine n_newP 13 30 rfl rfl (N := 2) zc_5 (zTT_in (i := 413) (by decide +kernel) rfl) zin_5 zit_5 zdv_5 rfl (by decide +kernel) (by show _ ≤ 87; omega) (by show _ ≤ 2264; omega) ?_
  refine n_dup 14 31 rfl rfl rfl ?_
  refine n_callI 15 34 rfl rfl (List.mem_of_getElem? (i := 6) rfl) F_X5_init (d := d - 1) ⟨by show d - 1 + 1 ≤ d; omega, by show 40 * (d - 1 + 1) ≤ 40 * d; omega⟩ (ci_X5 X B (d - 1) (by omega) _ _ (by decide +kernel) (by decide +kernel) (by decide +kernel)) (by decide +kernel) (by decide +kernel) rfl (Nat.le_of_ble_eq_true rfl) ⟨by show _ ≤ 87; omega, by show _ ≤ 2264; omega⟩ ?_
  refine n_putO 16 37 2 mono_X5 rfl rfl zf_X10_23 rfl rfl (fun z => ⟨rfl, rfl⟩) (by decide +kernel) (by decide +kernel) (by decide +kernel) ?_
  refine n_aload0 17 38 rfl rfl ?_
  refine n_newP 18 41 rfl rfl (N := 8) zc_6 (zTT_in (i := 427) (by decide +kernel) rfl) zin_6 zit_6 zdv_6 rfl (by decide +kernel) (by show _ ≤ 87; omega) (by show _ ≤ 2264; omega) ?_
  refine n_dup 19 42 rfl rfl rfl ?_
  refine n_callI 20 45 rfl rfl (List.mem_of_getElem? (i := 7) rfl) F_X6_init (d := d - 1) ⟨by show d - 1 + 1 ≤ d; omega, by show 40 * (d - 1 + 1) ≤ 40 * d; omega⟩ (ci_X6 X B (d - 1) (by omega) _ _ (by decide +kernel) (by decide +kernel) (by decide +kernel)) (by decide +kernel) (by decide +kernel) rfl (Nat.le_of_ble_eq_true rfl) ⟨by show _ ≤ 87; omega, by show _ ≤ 2264; omega⟩ ?_
  refine n_putO 21 48 3 mono_X6 rfl rfl zf_X10_29 rfl rfl (fun z => ⟨rfl, rfl⟩) (by decide +kernel) (by decide +kernel) (by decide +kernel) ?_
  refine n_aload0 22 49 rfl rfl ?_
  refine n_iconst 23 50 rfl rfl (v := 3) (by decide) ?_
  refine n_newQ 24 53 rfl rfl (zTT_in (i := 427) (by decide +kernel) rfl) (N := 3) (by decide) (by decide) (by decide) (by decide +kernel) (by show _ ≤ 87; omega) (by show _ ≤ 2264; omega) ?_
  refine n_putF 25 56 4 rfl rfl zf_X10_33 rfl rfl (fun z => ⟨rfl, rfl⟩) (by decide +kernel) (by decide +kernel) (by decide +kernel) ?_
  refine n_iconst 26 57 rfl rfl (v := 0) (by decide) ?_
  refine n_istore1 27 58 rfl rfl rfl ?_
  refine n_iload1 28 59 rfl rfl ?_
  refine n_iconst 29 60 rfl rfl (v := 3) (by decide) ?_
  refine n_geF 30 63 82 rfl (by decide) rfl (by decide) ?_
  refine n_aload0 31 64 rfl rfl ?_
  refine n_getR 32 67 4 rfl rfl zf_X10_33 rfl (by decide +kernel) (v := 38) (by decide +kernel) (by decide) ?_
  refine n_iload1 33 68 rfl rfl ?_
  refine n_newP 34 71 rfl rfl (N := 8) zc_6 (zTT_in (i := 427) (by decide +kernel) rfl) zin_6 zit_6 zdv_6 rfl (by decide +kernel) (by show _ ≤ 87; omega) (by show _ ≤ 2264; omega) ?_
  refine n_dup 35 72 rfl rfl rfl ?_
  refine n_callI 36 75 rfl rfl (List.mem_of_getElem? (i := 7) rfl) F_X6_init (d := d - 1) ⟨by show d - 1 + 1 ≤ d; omega, by show 40 * (d - 1 + 1) ≤ 40 * d; omega⟩ (ci_X6 X B (d - 1) (by omega) _ _ (by decide +kernel) (by decide +kernel) (by decide +kernel)) (by decide +kernel) (by decide +kernel) rfl (Nat.le_of_ble_eq_true rfl) ⟨by show _ ≤ 87; omega, by show _ ≤ 2264; omega⟩ ?_
  refine n_aast 37 76 rfl rfl (N := 3) (by decide +kernel) (by decide +kernel) (by unfold vp_in; decide) (by decide +kernel) (by decide +kernel) ?_
  refine n_iinc1 38 79 rfl rfl (v := 1) (by decide) rfl ?_
  refine n_goto 39 58 rfl (by decide) ?_
  refine n_iload1 28 59 rfl rfl ?_
  refine n_iconst 29 60 rfl rfl (v := 3) (by decide) ?_
  refine n_geF 30 63 82 rfl (by decide) rfl (by decide) ?_
  refine n_aload0 31 64 rfl rfl ?_
  refine n_getR 32 67 4 rfl rfl zf_X10_33 rfl (by decide +kernel) (v := 38) (by decide +kernel) (by decide) ?_
  refine n_iload1 33 68 rfl rfl ?_
  refine n_newP 34 71 rfl rfl (N := 8) zc_6 (zTT_in (i := 427) (by decide +kernel) rfl) zin_6 zit_6 zdv_6 rfl (by decide +kernel) (by show _ ≤ 87; omega) (by show _ ≤ 2264; omega) ?_
  refine n_dup 35 72 rfl rfl rfl ?_
  refine n_callI 36 75 rfl rfl (List.mem_of_getElem? (i := 7) rfl) F_X6_init (d := d - 1) ⟨by show d - 1 + 1 ≤ d; omega, by show 40 * (d - 1 + 1) ≤ 40 * d; omega⟩ (ci_X6 X B (d - 1) (by omega) _ _ (by decide +kernel) (by decide +kernel) (by decide +kernel)) (by decide +kernel) (by decide +kernel) rfl (Nat.le_of_ble_eq_true rfl) ⟨by show _ ≤ 87; omega, by show _ ≤ 2264; omega⟩ ?_
  refine n_aast 37 76 rfl rfl (N := 3) (by decide +kernel) (by decide +kernel) (by unfold vp_in; decide) (by decide +kernel) (by decide +kernel) ?_
  refine n_iinc1 38 79 rfl rfl (v := 2) (by decide) rfl ?_
  refine n_goto 39 58 rfl (by decide) ?_
  refine n_iload1 28 59 rfl rfl ?_
  refine n_iconst 29 60 rfl rfl (v := 3) (by decide) ?_
  refine n_geF 30 63 82 rfl (by decide) rfl (by decide) ?_
  refine n_aload0 31 64 rfl rfl ?_
  refine n_getR 32 67 4 rfl rfl zf_X10_33 rfl (by decide +kernel) (v := 38) (by decide +kernel) (by decide) ?_
  refine n_iload1 33 68 rfl rfl ?_
  refine n_newP 34 71 rfl rfl (N := 8) zc_6 (zTT_in (i := 427) (by decide +kernel) rfl) zin_6 zit_6 zdv_6 rfl (by decide +kernel) (by show _ ≤ 87; omega) (by show _ ≤ 2264; omega) ?_
  refine n_dup 35 72 rfl rfl rfl ?_
  refine n_callI 36 75 rfl rfl (List.mem_of_getElem? (i := 7) rfl) F_X6_init (d := d - 1) ⟨by show d - 1 + 1 ≤ d; omega, by show 40 * (d - 1 + 1) ≤ 40 * d; omega⟩ (ci_X6 X B (d - 1) (by omega) _ _ (by decide +kernel) (by decide +kernel) (by decide +kernel)) (by decide +kernel) (by decide +kernel) rfl (Nat.le_of_ble_eq_true rfl) ⟨by show _ ≤ 87; omega, by show _ ≤ 2264; omega⟩ ?_
  refine n_aast 37 76 rfl rfl (N := 3) (by decide +kernel) (by decide +kernel) (by unfold vp_in; decide) (by decide +kernel) (by decide +kernel) ?_
  refine n_iinc1 38 79 rfl rfl (v := 3) (by decide) rfl ?_
  refine n_goto 39 58 rfl (by decide) ?_
  refine n_iload1 28 59 rfl rfl ?_
  refine n_iconst 29 60 rfl rfl (v := 3) (by decide) ?_
  refine n_geT 30 63 82 rfl (by decide) (by decide) ?_
  refine n_aload0 40 83 rfl rfl ?_
  refine n_newP 41 86 rfl rfl (N := 3) zc_7 (zTT_in (i := 430) (by decide +kernel) rfl) zin_7 zit_7 zdv_7 rfl (by decide +kernel) (by show _ ≤ 87; omega) (by show _ ≤ 2264; omega) ?_
  refine n_dup 42 87 rfl rfl rfl ?_
  refine n_callI 43 90 rfl rfl (List.mem_of_getElem? (i := 8) rfl) F_X7_init (d := d - 1) ⟨by show d - 1 + 1 ≤ d; omega, by show 40 * (d - 1 + 1) ≤ 40 * d; omega⟩ (ci_X7 X B (d - 1) (by omega) _ _ (by decide +kernel) (by decide +kernel) (by decide +kernel)) (by decide +kernel) (by decide +kernel) rfl (Nat.le_of_ble_eq_true rfl) ⟨by show _ ≤ 87; omega, by show _ ≤ 2264; omega⟩ ?_
  refine n_putO 44 93 5 mono_X7 rfl rfl zf_X10_40 rfl rfl (fun z => ⟨rfl, rfl⟩) (by decide +kernel) (by decide +kernel) (by decide +kernel) ?_
  refine n_aload0 45 94 rfl rfl ?_
  refine n_newP 46 97 rfl rfl (N := 10) zc_2 (zTT_in (i := 449) (by decide +kernel) rfl) zin_2 zit_2 zdv_2 rfl (by decide +kernel) (by show _ ≤ 87; omega) (by show _ ≤ 2264; omega) ?_
  refine n_dup 47 98 rfl rfl rfl ?_
  refine n_callI 48 101 rfl rfl (List.mem_of_getElem? (i := 9) rfl) F_X2_init (d := d - 1) ⟨by show d - 1 + 1 ≤ d; omega, by show 40 * (d - 1 + 1) ≤ 40 * d; omega⟩ (ci_X2 X B (d - 1) (by omega) _ _ (by decide +kernel) (by decide +kernel) (by decide +kernel)) (by decide +kernel) (by decide +kernel) rfl (Nat.le_of_ble_eq_true rfl) ⟨by show _ ≤ 87; omega, by show _ ≤ 2264; omega⟩ ?_
  refine n_putO 49 104 6 mono_X2 rfl rfl zf_X10_47 rfl rfl (fun z => ⟨rfl, rfl⟩) (by decide +kernel) (by decide +kernel) (by decide +kernel) ?_
  refine n_aload0 50 105 rfl rfl ?_
  refine n_newP 51 108 rfl rfl (N := 1) zc_1 (zTT_in (i := 489) (by decide +kernel) rfl) zin_1 zit_1 zdv_1 rfl (by decide +kernel) (by show _ ≤ 87; omega) (by show _ ≤ 2264; omega) ?_
  refine n_dup 52 109 rfl rfl rfl ?_
  refine n_callI 53 112 rfl rfl (List.mem_of_getElem? (i := 10) rfl) F_X1_init (d := d - 1) ⟨by show d - 1 + 1 ≤ d; omega, by show 40 * (d - 1 + 1) ≤ 40 * d; omega⟩ (ci_X1 X B (d - 1) (by omega) _ _ (by decide +kernel) (by decide +kernel) (by decide +kernel)) (by decide +kernel) (by decide +kernel) rfl (Nat.le_of_ble_eq_true rfl) ⟨by show _ ≤ 87; omega, by show _ ≤ 2264; omega⟩ ?_
  refine n_putO 54 115 7 mono_X1 rfl rfl zf_X10_54 rfl rfl (fun z => ⟨rfl, rfl⟩) (by decide +kernel) (by decide +kernel) (by decide +kernel) ?_
  refine n_aload0 55 116 rfl rfl ?_
  refine n_newP 56 119 rfl rfl (N := 16) zc_3 (zTT_in (i := 500) (by decide +kernel) rfl) zin_3 zit_3 zdv_3 rfl (by decide +kernel) (by show _ ≤ 87; omega) (by show _ ≤ 2264; omega) ?_
  refine n_dup 57 120 rfl rfl rfl ?_
  refine n_callI 58 123 rfl rfl (List.mem_of_getElem? (i := 11) rfl) F_X3_init (d := d - 1) ⟨by show d - 1 + 1 ≤ d; omega, by show 40 * (d - 1 + 1) ≤ 40 * d; omega⟩ (ci_X3 X B (d - 1) (by omega) _ _ (by decide +kernel) (by decide +kernel) (by decide +kernel)) (by decide +kernel) (by decide +kernel) rfl (Nat.le_of_ble_eq_true rfl) ⟨by show _ ≤ 87; omega, by show _ ≤ 2264; omega⟩ ?_
  refine n_putO 59 126 8 mono_X3 rfl rfl zf_X10_61 rfl rfl (fun z => ⟨rfl, rfl⟩) (by decide +kernel) (by decide +kernel) (by decide +kernel) ?_
  refine n_aload0 60 127 rfl rfl ?_
  refine n_iconst 61 128 rfl rfl (v := -1) (by decide) ?_
  refine n_putI 62 131 12 rfl rfl zf_X10_65 rfl rfl rfl (by decide +kernel) (by decide +kernel) ?_
  exact n_vret 63 rfl rfl rfl rfl
def M_X11_init : zM := (⟨RX11, "<init>", "()V"⟩, prog_13_method_1_code, 1, none, [(0, .aload_n 0, 1), (1, .invokespecial 1, 3), (4, .aload_n 0, 1), (5, .sipush 900, 3), (8, .newarray .int, 2), (10, .putfield 7, 3), (13, .aload_n 0, 1), (14, .iconst (-1), 1), (15, .putfield 13, 3), (18, .aload_n 0, 1), (19, .bipush 8, 2), (21, .newarray .int, 2), (23, .putfield 17, 3), (26, .aload_n 0, 1), (27, .sipush 195, 3), (30, .newarray .int, 2), (32, .putfield 20, 3), (35, .aload_n 0, 1), (36, .sipush 195, 3), (39, .newarray .int, 2), (41, .putfield 23, 3), (44, .aload_n 0, 1), (45, .bipush 50, 2), (47, .newarray .int, 2), (49, .putfield 26, 3), (52, .aload_n 0, 1), (53, .bipush 50, 2), (55, .newarray .int, 2), (57, .putfield 29, 3), (60, .aload_n 0, 1), (61, .bipush 50, 2), (63, .newarray .int, 2), (65, .putfield 32, 3), (68, .aload_n 0, 1), (69, .sipush 800, 3), (72, .newarray .int, 2), (74, .putfield 35, 3), (77, .aload_n 0, 1), (78, .sipush 150, 3), (81, .newarray .int, 2), (83, .putfield 38, 3), (86, .aload_n 0, 1), (87, .bipush 12, 2), (89, .newarray .int, 2), (91, .putfield 41, 3), (94, .aload_n 0, 1), (95, .bipush 12, 2), (97, .newarray .int, 2), (99, .putfield 44, 3), (102, .aload_n 0, 1), (103, .bipush 12, 2), (105, .newarray .int, 2), (107, .putfield 47, 3), (110, .aload_n 0, 1), (111, .iconst 5, 1), (112, .newarray .int, 2), (114, .putfield 50, 3), (117, .aload_n 0, 1), (118, .iconst 5, 1), (119, .newarray .int, 2), (121, .putfield 53, 3), (124, .aload_n 0, 1), (125, .bipush 6, 2), (127, .newarray .int, 2), (129, .putfield 56, 3), (132, .aload_n 0, 1), (133, .bipush 6, 2), (135, .newarray .int, 2), (137, .putfield 59, 3), (140, .aload_n 0, 1), (141, .bipush 27, 2), (143, .newarray .int, 2), (145, .putfield 62, 3), (148, .return_, 1)])
theorem T_X11_init : zT M_X11_init := zT_of (by decide +kernel)
theorem F_X11_init : zMI M_X11_init := ⟨⟨zTT_in (i := 1299) (by decide +kernel) rfl, zit_11, ⟨by decide, by decide, by decide +kernel⟩, by decide⟩, zTT_in (i := 1298) (by decide +kernel) rfl, rfl, rfl⟩

def i_X11 : zN := let a := 0; let S : zN := ([(11, 0)], zS0); sF a 36 (100, 27) (sF a 34 (100, 6) (sF a 33 (100, 6) (sF a 30 (100, 5) (sF a 29 (100, 5) (sF a 27 (100, 12) (sF a 26 (100, 12) (sF a 25 (100, 12) (sF a 21 (100, 150) (sF a 20 (100, 800) (sF a 19 (100, 50) (sF a 18 (100, 50) (sF a 17 (100, 50) (sF a 16 (100, 195) (sF a 15 (100, 195) (sF a 12 (100, 8) (sI a 10 (-1) (sF a 1 (100, 900) S)))))))))))))))))
set_option maxRecDepth 100000 in
set_option maxHeartbeats 4000000 in
theorem ci_X11 (X : zX) (B d : Nat) (hd : 1 ≤ d) : zCI X B d M_X11_init 0 ([(11, 0)], zS0) i_X11 17 2483 := by
  refine n_entry (by decide +kernel) T_X11_init rfl (by decide) (by decide) (by decide) ?_
  show zGn X B (zrn d 17 2483) M_X11_init 17 2483 i_X11 0 [some (.ref 0)] [] ([(11, 0)], zS0) 0 0
  refine n_aload0 0 1 rfl rfl ?_
  refine n_objInit 1 4 rfl rfl (zTT_in (i := 1300) (by decide +kernel) rfl) ⟨by show 1 ≤ d; omega, by show 40 ≤ 40 * d; omega⟩ rfl ?_
  refine n_aload0 2 5 rfl rfl ?_
  refine n_sipush 3 8 rfl rfl (v := 900) (by decide) ?_
  refine n_newI 4 10 rfl rfl (N := 900) (by decide) (by decide) (by decide) (by decide +kernel) (by show _ ≤ 17; omega) (by show _ ≤ 2483; omega) ?_
  refine n_putF 5 13 1 rfl rfl zf_X11_7 rfl rfl (fun z => ⟨rfl, rfl⟩) (by decide +kernel) (by decide +kernel) (by decide +kernel) ?_
  refine n_aload0 6 14 rfl rfl ?_
  refine n_iconst 7 15 rfl rfl (v := -1) (by decide) ?_
  refine n_putI 8 18 10 rfl rfl zf_X11_13 rfl rfl rfl (by decide +kernel) (by decide +kernel) ?_
  refine n_aload0 9 19 rfl rfl ?_
  refine n_bipush 10 21 rfl rfl (v := 8) (by decide) ?_
  refine n_newI 11 23 rfl rfl (N := 8) (by decide) (by decide) (by decide) (by decide +kernel) (by show _ ≤ 17; omega) (by show _ ≤ 2483; omega) ?_
  refine n_putF 12 26 12 rfl rfl zf_X11_17 rfl rfl (fun z => ⟨rfl, rfl⟩) (by decide +kernel) (by decide +kernel) (by decide +kernel) ?_
  refine n_aload0 13 27 rfl rfl ?_
  refine n_sipush 14 30 rfl rfl (v := 195) (by decide) ?_
  refine n_newI 15 32 rfl rfl (N := 195) (by decide) (by decide) (by decide) (by decide +kernel) (by show _ ≤ 17; omega) (by show _ ≤ 2483; omega) ?_
  refine n_putF 16 35 15 rfl rfl zf_X11_20 rfl rfl (fun z => ⟨rfl, rfl⟩) (by decide +kernel) (by decide +kernel) (by decide +kernel) ?_
  refine n_aload0 17 36 rfl rfl ?_
  refine n_sipush 18 39 rfl rfl (v := 195) (by decide) ?_
  refine n_newI 19 41 rfl rfl (N := 195) (by decide) (by decide) (by decide) (by decide +kernel) (by show _ ≤ 17; omega) (by show _ ≤ 2483; omega) ?_
  refine n_putF 20 44 16 rfl rfl zf_X11_23 rfl rfl (fun z => ⟨rfl, rfl⟩) (by decide +kernel) (by decide +kernel) (by decide +kernel) ?_
  refine n_aload0 21 45 rfl rfl ?_
  refine n_bipush 22 47 rfl rfl (v := 50) (by decide) ?_
  refine n_newI 23 49 rfl rfl (N := 50) (by decide) (by decide) (by decide) (by decide +kernel) (by show _ ≤ 17; omega) (by show _ ≤ 2483; omega) ?_
  refine n_putF 24 52 17 rfl rfl zf_X11_26 rfl rfl (fun z => ⟨rfl, rfl⟩) (by decide +kernel) (by decide +kernel) (by decide +kernel) ?_
  refine n_aload0 25 53 rfl rfl ?_
  refine n_bipush 26 55 rfl rfl (v := 50) (by decide) ?_
  refine n_newI 27 57 rfl rfl (N := 50) (by decide) (by decide) (by decide) (by decide +kernel) (by show _ ≤ 17; omega) (by show _ ≤ 2483; omega) ?_
  refine n_putF 28 60 18 rfl rfl zf_X11_29 rfl rfl (fun z => ⟨rfl, rfl⟩) (by decide +kernel) (by decide +kernel) (by decide +kernel) ?_
  refine n_aload0 29 61 rfl rfl ?_
  refine n_bipush 30 63 rfl rfl (v := 50) (by decide) ?_
  refine n_newI 31 65 rfl rfl (N := 50) (by decide) (by decide) (by decide) (by decide +kernel) (by show _ ≤ 17; omega) (by show _ ≤ 2483; omega) ?_
  refine n_putF 32 68 19 rfl rfl zf_X11_32 rfl rfl (fun z => ⟨rfl, rfl⟩) (by decide +kernel) (by decide +kernel) (by decide +kernel) ?_
  refine n_aload0 33 69 rfl rfl ?_
  refine n_sipush 34 72 rfl rfl (v := 800) (by decide) ?_
  refine n_newI 35 74 rfl rfl (N := 800) (by decide) (by decide) (by decide) (by decide +kernel) (by show _ ≤ 17; omega) (by show _ ≤ 2483; omega) ?_
  refine n_putF 36 77 20 rfl rfl zf_X11_35 rfl rfl (fun z => ⟨rfl, rfl⟩) (by decide +kernel) (by decide +kernel) (by decide +kernel) ?_
  refine n_aload0 37 78 rfl rfl ?_
  refine n_sipush 38 81 rfl rfl (v := 150) (by decide) ?_
  refine n_newI 39 83 rfl rfl (N := 150) (by decide) (by decide) (by decide) (by decide +kernel) (by show _ ≤ 17; omega) (by show _ ≤ 2483; omega) ?_
  refine n_putF 40 86 21 rfl rfl zf_X11_38 rfl rfl (fun z => ⟨rfl, rfl⟩) (by decide +kernel) (by decide +kernel) (by decide +kernel) ?_
  refine n_aload0 41 87 rfl rfl ?_
  refine n_bipush 42 89 rfl rfl (v := 12) (by decide) ?_
  refine n_newI 43 91 rfl rfl (N := 12) (by decide) (by decide) (by decide) (by decide +kernel) (by show _ ≤ 17; omega) (by show _ ≤ 2483; omega) ?_
  refine n_putF 44 94 25 rfl rfl zf_X11_41 rfl rfl (fun z => ⟨rfl, rfl⟩) (by decide +kernel) (by decide +kernel) (by decide +kernel) ?_
  refine n_aload0 45 95 rfl rfl ?_
  refine n_bipush 46 97 rfl rfl (v := 12) (by decide) ?_
  refine n_newI 47 99 rfl rfl (N := 12) (by decide) (by decide) (by decide) (by decide +kernel) (by show _ ≤ 17; omega) (by show _ ≤ 2483; omega) ?_
  refine n_putF 48 102 26 rfl rfl zf_X11_44 rfl rfl (fun z => ⟨rfl, rfl⟩) (by decide +kernel) (by decide +kernel) (by decide +kernel) ?_
  refine n_aload0 49 103 rfl rfl ?_
  refine n_bipush 50 105 rfl rfl (v := 12) (by decide) ?_
  refine n_newI 51 107 rfl rfl (N := 12) (by decide) (by decide) (by decide) (by decide +kernel) (by show _ ≤ 17; omega) (by show _ ≤ 2483; omega) ?_
  refine n_putF 52 110 27 rfl rfl zf_X11_47 rfl rfl (fun z => ⟨rfl, rfl⟩) (by decide +kernel) (by decide +kernel) (by decide +kernel) ?_
  refine n_aload0 53 111 rfl rfl ?_
  refine n_iconst 54 112 rfl rfl (v := 5) (by decide) ?_
  refine n_newI 55 114 rfl rfl (N := 5) (by decide) (by decide) (by decide) (by decide +kernel) (by show _ ≤ 17; omega) (by show _ ≤ 2483; omega) ?_
  refine n_putF 56 117 29 rfl rfl zf_X11_50 rfl rfl (fun z => ⟨rfl, rfl⟩) (by decide +kernel) (by decide +kernel) (by decide +kernel) ?_
  refine n_aload0 57 118 rfl rfl ?_
  refine n_iconst 58 119 rfl rfl (v := 5) (by decide) ?_
  refine n_newI 59 121 rfl rfl (N := 5) (by decide) (by decide) (by decide) (by decide +kernel) (by show _ ≤ 17; omega) (by show _ ≤ 2483; omega) ?_
  refine n_putF 60 124 30 rfl rfl zf_X11_53 rfl rfl (fun z => ⟨rfl, rfl⟩) (by decide +kernel) (by decide +kernel) (by decide +kernel) ?_
  refine n_aload0 61 125 rfl rfl ?_
  refine n_bipush 62 127 rfl rfl (v := 6) (by decide) ?_
  refine n_newI 63 129 rfl rfl (N := 6) (by decide) (by decide) (by decide) (by decide +kernel) (by show _ ≤ 17; omega) (by show _ ≤ 2483; omega) ?_
  refine n_putF 64 132 33 rfl rfl zf_X11_56 rfl rfl (fun z => ⟨rfl, rfl⟩) (by decide +kernel) (by decide +kernel) (by decide +kernel) ?_
  refine n_aload0 65 133 rfl rfl ?_
  refine n_bipush 66 135 rfl rfl (v := 6) (by decide) ?_
  refine n_newI 67 137 rfl rfl (N := 6) (by decide) (by decide) (by decide) (by decide +kernel) (by show _ ≤ 17; omega) (by show _ ≤ 2483; omega) ?_
  refine n_putF 68 140 34 rfl rfl zf_X11_59 rfl rfl (fun z => ⟨rfl, rfl⟩) (by decide +kernel) (by decide +kernel) (by decide +kernel) ?_
  refine n_aload0 69 141 rfl rfl ?_
  refine n_bipush 70 143 rfl rfl (v := 27) (by decide) ?_
  refine n_newI 71 145 rfl rfl (N := 27) (by decide) (by decide) (by decide) (by decide +kernel) (by show _ ≤ 17; omega) (by show _ ≤ 2483; omega) ?_
  refine n_putF 72 148 36 rfl rfl zf_X11_62 rfl rfl (fun z => ⟨rfl, rfl⟩) (by decide +kernel) (by decide +kernel) (by decide +kernel) ?_
  exact n_vret 73 rfl rfl rfl rfl
