def ltt_0 : List (Nat × Instr × Nat) := [(268, .aload_n 1, 1), (269, .aload_n 0, 1), (270, .iload 4, 2), (272, .iconst 1, 1), (273, .iadd, 1), (274, .iaload, 1), (275, .aload_n 0, 1), (276, .iload 4, 2), (278, .iconst 2, 1), (279, .iadd, 1), (280, .iaload, 1), (281, .aload_n 0, 1), (282, .iload 4, 2), (284, .iconst 3, 1), (285, .iadd, 1), (286, .iaload, 1), (287, .aload_n 0, 1), (288, .iload 4, 2), (290, .iconst 4, 1), (291, .iadd, 1), (292, .iaload, 1), (293, .aload_n 0, 1), (294, .iload 4, 2), (296, .iconst 5, 1), (297, .iadd, 1), (298, .iaload, 1), (299, .invokevirtual 19, 3), (302, .aload_n 2, 1), (303, .aload_n 0, 1), (304, .iload 4, 2), (306, .iconst 1, 1), (307, .iadd, 1), (308, .iaload, 1), (309, .aload_n 0, 1), (310, .iload 4, 2), (312, .iconst 2, 1), (313, .iadd, 1), (314, .iaload, 1), (315, .aload_n 0, 1), (316, .iload 4, 2), (318, .iconst 3, 1), (319, .iadd, 1), (320, .iaload, 1), (321, .aload_n 0, 1), (322, .iload 4, 2), (324, .iconst 4, 1), (325, .iadd, 1), (326, .iaload, 1), (327, .aload_n 0, 1), (328, .iload 4, 2), (330, .iconst 5, 1), (331, .iadd, 1), (332, .iaload, 1), (333, .invokevirtual 23, 3), (336, .if_icmp .eq 1567, 3), (339, .iconst 0, 1)]
theorem ld0_0 : ∀ q ∈ ltt_0, decode code q.1 = .ok q.2 := by decide +kernel
theorem ld_0 (i : Nat) {pc n : Nat} {g : Instr} (h : ltt_0[i]? = some (pc, g, n)) : decode code pc = .ok (g, n) := ld0_0 (pc, g, n) (List.mem_of_getElem? h)
def zO_feed (Rel : zS → zS → Prop) : Prop := ∀ (σc σm : zS) (a1 : Int32) (a2 : Int32) (a3 : Int32) (a4 : Int32) (a5 : Int32), Rel σc σm → ∃ (r : Int32) (σc1 σm1 : zS), f_X10_feed 0 a1 a2 a3 a4 a5 σc = some (r, σc1) ∧ f_X11_feed 0 a1 a2 a3 a4 a5 σm = some (r, σm1) ∧ Rel σc1 σm1
theorem zll_0 : Cond.methodLink R_law 19 M_X10_feed.1 ∈ zTT := zTT_in (i := 542) (by decide +kernel) rfl
theorem zlm_0 : Cond.methodLink R_law 23 M_X11_feed.1 ∈ zTT := zTT_in (i := 1426) (by decide +kernel) rfl
theorem lw_case_0 {p : Program} {e : Env} {s : State} {m : MethodId} {below : List Frame} {meth : Method} {c : Code} {XC XM : zX} {cJ : ClassId} {ob b L : Nat} {xs : Nat → Int32} {i : Nat} {σc σm : zS} {g : Nat → Int64} {cells slots : Nat} {Rel : zS → zS → Prop} (C : lC p s m meth c XC XM cJ ob b L xs) (O : zO_feed Rel) (hi : i + 6 ≤ L) (hcs : cells ≤ 601024 ∧ slots ≤ 7293033) (hR : Rel σc σm) (K : ∀ (σc σm : zS), Rel σc σm → lG p e s m below meth c XC XM cJ ob b 1903 i [] σc σm g cells slots) : lG p e s m below meth c XC XM cJ ob b 268 i [] σc σm g cells slots := by
  obtain ⟨r, σc1, σm1, h1, h2, hR1⟩ := O σc σm (xs (i + 1)) (xs (i + 2)) (xs (i + 3)) (xs (i + 4)) (xs (i + 5)) hR
  refine l_aload C (k := 1) (ld_0 0 rfl) rfl rfl ?_
  refine l_arg C 1 275 (ld_0 1 rfl) (ld_0 2 rfl) (ld_0 3 rfl) (ld_0 4 rfl) (ld_0 5 rfl) (by decide) (by omega) rfl ?_
  refine l_arg C 2 281 (ld_0 6 rfl) (ld_0 7 rfl) (ld_0 8 rfl) (ld_0 9 rfl) (ld_0 10 rfl) (by decide) (by omega) rfl ?_
  refine l_arg C 3 287 (ld_0 11 rfl) (ld_0 12 rfl) (ld_0 13 rfl) (ld_0 14 rfl) (ld_0 15 rfl) (by decide) (by omega) rfl ?_
  refine l_arg C 4 293 (ld_0 16 rfl) (ld_0 17 rfl) (ld_0 18 rfl) (ld_0 19 rfl) (ld_0 20 rfl) (by decide) (by omega) rfl ?_
  refine l_arg C 5 299 (ld_0 21 rfl) (ld_0 22 rfl) (ld_0 23 rfl) (ld_0 24 rfl) (ld_0 25 rfl) (by decide) (by omega) rfl ?_
  refine l_callC (n := 302) (As := [.int (xs (i + 1)), .int (xs (i + 2)), .int (xs (i + 3)), .int (xs (i + 4)), .int (xs (i + 5))]) (o := (some (.int r), σc1)) C (ld_0 26 rfl) rfl zll_0 F_X10_feed rfl (c_X10_feed XC 40 (by omega) 0 (xs (i + 1)) (xs (i + 2)) (xs (i + 3)) (xs (i + 4)) (xs (i + 5)) σc r σc1 h1) rfl rfl (Nat.le_of_ble_eq_true rfl) hcs ?_
  refine l_aload C (k := 2) (ld_0 27 rfl) rfl rfl ?_
  refine l_arg C 1 309 (ld_0 28 rfl) (ld_0 29 rfl) (ld_0 30 rfl) (ld_0 31 rfl) (ld_0 32 rfl) (by decide) (by omega) rfl ?_
  refine l_arg C 2 315 (ld_0 33 rfl) (ld_0 34 rfl) (ld_0 35 rfl) (ld_0 36 rfl) (ld_0 37 rfl) (by decide) (by omega) rfl ?_
  refine l_arg C 3 321 (ld_0 38 rfl) (ld_0 39 rfl) (ld_0 40 rfl) (ld_0 41 rfl) (ld_0 42 rfl) (by decide) (by omega) rfl ?_
  refine l_arg C 4 327 (ld_0 43 rfl) (ld_0 44 rfl) (ld_0 45 rfl) (ld_0 46 rfl) (ld_0 47 rfl) (by decide) (by omega) rfl ?_
  refine l_arg C 5 333 (ld_0 48 rfl) (ld_0 49 rfl) (ld_0 50 rfl) (ld_0 51 rfl) (ld_0 52 rfl) (by decide) (by omega) rfl ?_
  refine l_callM (n := 336) (As := [.int (xs (i + 1)), .int (xs (i + 2)), .int (xs (i + 3)), .int (xs (i + 4)), .int (xs (i + 5))]) (o := (some (.int r), σm1)) C (ld_0 53 rfl) rfl zlm_0 F_X11_feed rfl (c_X11_feed XM 40 0 (xs (i + 1)) (xs (i + 2)) (xs (i + 3)) (xs (i + 4)) (xs (i + 5)) σm r σm1 h2) rfl rfl (Nat.le_of_ble_eq_true rfl) hcs ?_
  exact l_eqI C (ld_0 54 rfl) (by decide) (K σc1 σm1 hR1)
def ltt_1 : List (Nat × Instr × Nat) := [(341, .aload_n 1, 1), (342, .aload_n 0, 1), (343, .iload 4, 2), (345, .iconst 1, 1), (346, .iadd, 1), (347, .iaload, 1), (348, .invokevirtual 24, 3), (351, .aload_n 2, 1), (352, .aload_n 0, 1), (353, .iload 4, 2), (355, .iconst 1, 1), (356, .iadd, 1), (357, .iaload, 1), (358, .invokevirtual 27, 3), (361, .if_icmp .eq 1542, 3), (364, .iconst 0, 1)]
theorem ld0_1 : ∀ q ∈ ltt_1, decode code q.1 = .ok q.2 := by decide +kernel
theorem ld_1 (i : Nat) {pc n : Nat} {g : Instr} (h : ltt_1[i]? = some (pc, g, n)) : decode code pc = .ok (g, n) := ld0_1 (pc, g, n) (List.mem_of_getElem? h)
def zO_letter (Rel : zS → zS → Prop) : Prop := ∀ (σc σm : zS) (a1 : Int32), Rel σc σm → ∃ (r : Int32) (σc1 σm1 : zS), f_X10_letter 0 a1 σc = some (r, σc1) ∧ f_X11_letter 0 a1 σm = some (r, σm1) ∧ Rel σc1 σm1
theorem zll_1 : Cond.methodLink R_law 24 M_X10_letter.1 ∈ zTT := zTT_in (i := 550) (by decide +kernel) rfl
theorem zlm_1 : Cond.methodLink R_law 27 M_X11_letter.1 ∈ zTT := zTT_in (i := 1430) (by decide +kernel) rfl
theorem lw_case_1 {p : Program} {e : Env} {s : State} {m : MethodId} {below : List Frame} {meth : Method} {c : Code} {XC XM : zX} {cJ : ClassId} {ob b L : Nat} {xs : Nat → Int32} {i : Nat} {σc σm : zS} {g : Nat → Int64} {cells slots : Nat} {Rel : zS → zS → Prop} (C : lC p s m meth c XC XM cJ ob b L xs) (O : zO_letter Rel) (hi : i + 6 ≤ L) (hcs : cells ≤ 601024 ∧ slots ≤ 7293033) (hR : Rel σc σm) (K : ∀ (σc σm : zS), Rel σc σm → lG p e s m below meth c XC XM cJ ob b 1903 i [] σc σm g cells slots) : lG p e s m below meth c XC XM cJ ob b 341 i [] σc σm g cells slots := by
  obtain ⟨r, σc1, σm1, h1, h2, hR1⟩ := O σc σm (xs (i + 1)) hR
  refine l_aload C (k := 1) (ld_1 0 rfl) rfl rfl ?_
  refine l_arg C 1 348 (ld_1 1 rfl) (ld_1 2 rfl) (ld_1 3 rfl) (ld_1 4 rfl) (ld_1 5 rfl) (by decide) (by omega) rfl ?_
  refine l_callC (n := 351) (As := [.int (xs (i + 1))]) (o := (some (.int r), σc1)) C (ld_1 6 rfl) rfl zll_1 F_X10_letter rfl (c_X10_letter XC 40 (by omega) 0 (xs (i + 1)) σc r σc1 h1) rfl rfl (Nat.le_of_ble_eq_true rfl) hcs ?_
  refine l_aload C (k := 2) (ld_1 7 rfl) rfl rfl ?_
  refine l_arg C 1 358 (ld_1 8 rfl) (ld_1 9 rfl) (ld_1 10 rfl) (ld_1 11 rfl) (ld_1 12 rfl) (by decide) (by omega) rfl ?_
  refine l_callM (n := 361) (As := [.int (xs (i + 1))]) (o := (some (.int r), σm1)) C (ld_1 13 rfl) rfl zlm_1 F_X11_letter rfl (c_X11_letter XM 40 (by omega) 0 (xs (i + 1)) σm r σm1 h2) rfl rfl (Nat.le_of_ble_eq_true rfl) hcs ?_
  exact l_eqI C (ld_1 14 rfl) (by decide) (K σc1 σm1 hR1)
def ltt_2 : List (Nat × Instr × Nat) := [(366, .aload_n 1, 1), (367, .invokevirtual 28, 3), (370, .aload_n 2, 1), (371, .invokevirtual 32, 3), (374, .if_icmp .eq 1529, 3), (377, .iconst 0, 1)]
theorem ld0_2 : ∀ q ∈ ltt_2, decode code q.1 = .ok q.2 := by decide +kernel
theorem ld_2 (i : Nat) {pc n : Nat} {g : Instr} (h : ltt_2[i]? = some (pc, g, n)) : decode code pc = .ok (g, n) := ld0_2 (pc, g, n) (List.mem_of_getElem? h)
def zO_fault (Rel : zS → zS → Prop) : Prop := ∀ (σc σm : zS), Rel σc σm → ∃ (r : Int32) (σc1 σm1 : zS), f_X10_fault 0  σc = some (r, σc1) ∧ f_X11_fault 0  σm = some (r, σm1) ∧ Rel σc1 σm1
theorem zll_2 : Cond.methodLink R_law 28 M_X10_fault.1 ∈ zTT := zTT_in (i := 785) (by decide +kernel) rfl
theorem zlm_2 : Cond.methodLink R_law 32 M_X11_fault.1 ∈ zTT := zTT_in (i := 1593) (by decide +kernel) rfl
theorem lw_case_2 {p : Program} {e : Env} {s : State} {m : MethodId} {below : List Frame} {meth : Method} {c : Code} {XC XM : zX} {cJ : ClassId} {ob b L : Nat} {xs : Nat → Int32} {i : Nat} {σc σm : zS} {g : Nat → Int64} {cells slots : Nat} {Rel : zS → zS → Prop} (C : lC p s m meth c XC XM cJ ob b L xs) (O : zO_fault Rel) (hi : i + 6 ≤ L) (hcs : cells ≤ 601024 ∧ slots ≤ 7293033) (hR : Rel σc σm) (K : ∀ (σc σm : zS), Rel σc σm → lG p e s m below meth c XC XM cJ ob b 1903 i [] σc σm g cells slots) : lG p e s m below meth c XC XM cJ ob b 366 i [] σc σm g cells slots := by
  obtain ⟨r, σc1, σm1, h1, h2, hR1⟩ := O σc σm  hR
  refine l_aload C (k := 1) (ld_2 0 rfl) rfl rfl ?_
  refine l_callC (n := 370) (As := []) (o := (some (.int r), σc1)) C (ld_2 1 rfl) rfl zll_2 F_X10_fault rfl (c_X10_fault XC 40 0  σc r σc1 h1) rfl rfl (Nat.le_of_ble_eq_true rfl) hcs ?_
  refine l_aload C (k := 2) (ld_2 2 rfl) rfl rfl ?_
  refine l_callM (n := 374) (As := []) (o := (some (.int r), σm1)) C (ld_2 3 rfl) rfl zlm_2 F_X11_fault rfl (c_X11_fault XM 40 0  σm r σm1 h2) rfl rfl (Nat.le_of_ble_eq_true rfl) hcs ?_
  exact l_eqI C (ld_2 4 rfl) (by decide) (K σc1 σm1 hR1)
def ltt_3 : List (Nat × Instr × Nat) := [(379, .aload_n 1, 1), (380, .invokevirtual 33, 3), (383, .aload_n 2, 1), (384, .invokevirtual 36, 3), (387, .if_icmp .eq 1516, 3), (390, .iconst 0, 1)]
theorem ld0_3 : ∀ q ∈ ltt_3, decode code q.1 = .ok q.2 := by decide +kernel
theorem ld_3 (i : Nat) {pc n : Nat} {g : Instr} (h : ltt_3[i]? = some (pc, g, n)) : decode code pc = .ok (g, n) := ld0_3 (pc, g, n) (List.mem_of_getElem? h)
def zO_where (Rel : zS → zS → Prop) : Prop := ∀ (σc σm : zS), Rel σc σm → ∃ (r : Int32) (σc1 σm1 : zS), f_X10_where 0  σc = some (r, σc1) ∧ f_X11_where 0  σm = some (r, σm1) ∧ Rel σc1 σm1
theorem zll_3 : Cond.methodLink R_law 33 M_X10_where.1 ∈ zTT := zTT_in (i := 789) (by decide +kernel) rfl
theorem zlm_3 : Cond.methodLink R_law 36 M_X11_where.1 ∈ zTT := zTT_in (i := 1597) (by decide +kernel) rfl
theorem lw_case_3 {p : Program} {e : Env} {s : State} {m : MethodId} {below : List Frame} {meth : Method} {c : Code} {XC XM : zX} {cJ : ClassId} {ob b L : Nat} {xs : Nat → Int32} {i : Nat} {σc σm : zS} {g : Nat → Int64} {cells slots : Nat} {Rel : zS → zS → Prop} (C : lC p s m meth c XC XM cJ ob b L xs) (O : zO_where Rel) (hi : i + 6 ≤ L) (hcs : cells ≤ 601024 ∧ slots ≤ 7293033) (hR : Rel σc σm) (K : ∀ (σc σm : zS), Rel σc σm → lG p e s m below meth c XC XM cJ ob b 1903 i [] σc σm g cells slots) : lG p e s m below meth c XC XM cJ ob b 379 i [] σc σm g cells slots := by
  obtain ⟨r, σc1, σm1, h1, h2, hR1⟩ := O σc σm  hR
  refine l_aload C (k := 1) (ld_3 0 rfl) rfl rfl ?_
  refine l_callC (n := 383) (As := []) (o := (some (.int r), σc1)) C (ld_3 1 rfl) rfl zll_3 F_X10_where rfl (c_X10_where XC 40 0  σc r σc1 h1) rfl rfl (Nat.le_of_ble_eq_true rfl) hcs ?_
  refine l_aload C (k := 2) (ld_3 2 rfl) rfl rfl ?_
  refine l_callM (n := 387) (As := []) (o := (some (.int r), σm1)) C (ld_3 3 rfl) rfl zlm_3 F_X11_where rfl (c_X11_where XM 40 0  σm r σm1 h2) rfl rfl (Nat.le_of_ble_eq_true rfl) hcs ?_
  exact l_eqI C (ld_3 4 rfl) (by decide) (K σc1 σm1 hR1)
def ltt_4 : List (Nat × Instr × Nat) := [(392, .aload_n 1, 1), (393, .aload_n 0, 1), (394, .iload 4, 2), (396, .iconst 1, 1), (397, .iadd, 1), (398, .iaload, 1), (399, .aload_n 0, 1), (400, .iload 4, 2), (402, .iconst 2, 1), (403, .iadd, 1), (404, .iaload, 1), (405, .invokevirtual 37, 3), (408, .aload_n 2, 1), (409, .aload_n 0, 1), (410, .iload 4, 2), (412, .iconst 1, 1), (413, .iadd, 1), (414, .iaload, 1), (415, .aload_n 0, 1), (416, .iload 4, 2), (418, .iconst 2, 1), (419, .iadd, 1), (420, .iaload, 1), (421, .invokevirtual 41, 3), (424, .if_icmp .eq 1479, 3), (427, .iconst 0, 1)]
theorem ld0_4 : ∀ q ∈ ltt_4, decode code q.1 = .ok q.2 := by decide +kernel
theorem ld_4 (i : Nat) {pc n : Nat} {g : Instr} (h : ltt_4[i]? = some (pc, g, n)) : decode code pc = .ok (g, n) := ld0_4 (pc, g, n) (List.mem_of_getElem? h)
def zO_place (Rel : zS → zS → Prop) : Prop := ∀ (σc σm : zS) (a1 : Int32) (a2 : Int32), Rel σc σm → ∃ (r : Int32) (σc1 σm1 : zS), f_X10_place 0 a1 a2 σc = some (r, σc1) ∧ f_X11_place 0 a1 a2 σm = some (r, σm1) ∧ Rel σc1 σm1
theorem zll_4 : Cond.methodLink R_law 37 M_X10_place.1 ∈ zTT := zTT_in (i := 793) (by decide +kernel) rfl
theorem zlm_4 : Cond.methodLink R_law 41 M_X11_place.1 ∈ zTT := zTT_in (i := 1601) (by decide +kernel) rfl
theorem lw_case_4 {p : Program} {e : Env} {s : State} {m : MethodId} {below : List Frame} {meth : Method} {c : Code} {XC XM : zX} {cJ : ClassId} {ob b L : Nat} {xs : Nat → Int32} {i : Nat} {σc σm : zS} {g : Nat → Int64} {cells slots : Nat} {Rel : zS → zS → Prop} (C : lC p s m meth c XC XM cJ ob b L xs) (O : zO_place Rel) (hi : i + 6 ≤ L) (hcs : cells ≤ 601024 ∧ slots ≤ 7293033) (hR : Rel σc σm) (K : ∀ (σc σm : zS), Rel σc σm → lG p e s m below meth c XC XM cJ ob b 1903 i [] σc σm g cells slots) : lG p e s m below meth c XC XM cJ ob b 392 i [] σc σm g cells slots := by
  obtain ⟨r, σc1, σm1, h1, h2, hR1⟩ := O σc σm (xs (i + 1)) (xs (i + 2)) hR
  refine l_aload C (k := 1) (ld_4 0 rfl) rfl rfl ?_
  refine l_arg C 1 399 (ld_4 1 rfl) (ld_4 2 rfl) (ld_4 3 rfl) (ld_4 4 rfl) (ld_4 5 rfl) (by decide) (by omega) rfl ?_
  refine l_arg C 2 405 (ld_4 6 rfl) (ld_4 7 rfl) (ld_4 8 rfl) (ld_4 9 rfl) (ld_4 10 rfl) (by decide) (by omega) rfl ?_
  refine l_callC (n := 408) (As := [.int (xs (i + 1)), .int (xs (i + 2))]) (o := (some (.int r), σc1)) C (ld_4 11 rfl) rfl zll_4 F_X10_place rfl (c_X10_place XC 40 (by omega) 0 (xs (i + 1)) (xs (i + 2)) σc r σc1 h1) rfl rfl (Nat.le_of_ble_eq_true rfl) hcs ?_
  refine l_aload C (k := 2) (ld_4 12 rfl) rfl rfl ?_
  refine l_arg C 1 415 (ld_4 13 rfl) (ld_4 14 rfl) (ld_4 15 rfl) (ld_4 16 rfl) (ld_4 17 rfl) (by decide) (by omega) rfl ?_
  refine l_arg C 2 421 (ld_4 18 rfl) (ld_4 19 rfl) (ld_4 20 rfl) (ld_4 21 rfl) (ld_4 22 rfl) (by decide) (by omega) rfl ?_
  refine l_callM (n := 424) (As := [.int (xs (i + 1)), .int (xs (i + 2))]) (o := (some (.int r), σm1)) C (ld_4 23 rfl) rfl zlm_4 F_X11_place rfl (c_X11_place XM 40 (by omega) 0 (xs (i + 1)) (xs (i + 2)) σm r σm1 h2) rfl rfl (Nat.le_of_ble_eq_true rfl) hcs ?_
  exact l_eqI C (ld_4 24 rfl) (by decide) (K σc1 σm1 hR1)
def ltt_5 : List (Nat × Instr × Nat) := [(429, .aload_n 1, 1), (430, .aload_n 0, 1), (431, .iload 4, 2), (433, .iconst 1, 1), (434, .iadd, 1), (435, .iaload, 1), (436, .aload_n 0, 1), (437, .iload 4, 2), (439, .iconst 2, 1), (440, .iadd, 1), (441, .iaload, 1), (442, .invokevirtual 42, 3), (445, .aload_n 2, 1), (446, .aload_n 0, 1), (447, .iload 4, 2), (449, .iconst 1, 1), (450, .iadd, 1), (451, .iaload, 1), (452, .aload_n 0, 1), (453, .iload 4, 2), (455, .iconst 2, 1), (456, .iadd, 1), (457, .iaload, 1), (458, .invokevirtual 45, 3), (461, .if_icmp .eq 1442, 3), (464, .iconst 0, 1)]
theorem ld0_5 : ∀ q ∈ ltt_5, decode code q.1 = .ok q.2 := by decide +kernel
theorem ld_5 (i : Nat) {pc n : Nat} {g : Instr} (h : ltt_5[i]? = some (pc, g, n)) : decode code pc = .ok (g, n) := ld0_5 (pc, g, n) (List.mem_of_getElem? h)
def zO_hand (Rel : zS → zS → Prop) : Prop := ∀ (σc σm : zS) (a1 : Int32) (a2 : Int32), Rel σc σm → ∃ (r : Int32) (σc1 σm1 : zS), f_X10_hand 0 a1 a2 σc = some (r, σc1) ∧ f_X11_hand 0 a1 a2 σm = some (r, σm1) ∧ Rel σc1 σm1
theorem zll_5 : Cond.methodLink R_law 42 M_X10_hand.1 ∈ zTT := zTT_in (i := 810) (by decide +kernel) rfl
theorem zlm_5 : Cond.methodLink R_law 45 M_X11_hand.1 ∈ zTT := zTT_in (i := 1624) (by decide +kernel) rfl
theorem lw_case_5 {p : Program} {e : Env} {s : State} {m : MethodId} {below : List Frame} {meth : Method} {c : Code} {XC XM : zX} {cJ : ClassId} {ob b L : Nat} {xs : Nat → Int32} {i : Nat} {σc σm : zS} {g : Nat → Int64} {cells slots : Nat} {Rel : zS → zS → Prop} (C : lC p s m meth c XC XM cJ ob b L xs) (O : zO_hand Rel) (hi : i + 6 ≤ L) (hcs : cells ≤ 601024 ∧ slots ≤ 7293033) (hR : Rel σc σm) (K : ∀ (σc σm : zS), Rel σc σm → lG p e s m below meth c XC XM cJ ob b 1903 i [] σc σm g cells slots) : lG p e s m below meth c XC XM cJ ob b 429 i [] σc σm g cells slots := by
  obtain ⟨r, σc1, σm1, h1, h2, hR1⟩ := O σc σm (xs (i + 1)) (xs (i + 2)) hR
  refine l_aload C (k := 1) (ld_5 0 rfl) rfl rfl ?_
  refine l_arg C 1 436 (ld_5 1 rfl) (ld_5 2 rfl) (ld_5 3 rfl) (ld_5 4 rfl) (ld_5 5 rfl) (by decide) (by omega) rfl ?_
  refine l_arg C 2 442 (ld_5 6 rfl) (ld_5 7 rfl) (ld_5 8 rfl) (ld_5 9 rfl) (ld_5 10 rfl) (by decide) (by omega) rfl ?_
  refine l_callC (n := 445) (As := [.int (xs (i + 1)), .int (xs (i + 2))]) (o := (some (.int r), σc1)) C (ld_5 11 rfl) rfl zll_5 F_X10_hand rfl (c_X10_hand XC 40 (by omega) 0 (xs (i + 1)) (xs (i + 2)) σc r σc1 h1) rfl rfl (Nat.le_of_ble_eq_true rfl) hcs ?_
  refine l_aload C (k := 2) (ld_5 12 rfl) rfl rfl ?_
  refine l_arg C 1 452 (ld_5 13 rfl) (ld_5 14 rfl) (ld_5 15 rfl) (ld_5 16 rfl) (ld_5 17 rfl) (by decide) (by omega) rfl ?_
  refine l_arg C 2 458 (ld_5 18 rfl) (ld_5 19 rfl) (ld_5 20 rfl) (ld_5 21 rfl) (ld_5 22 rfl) (by decide) (by omega) rfl ?_
  refine l_callM (n := 461) (As := [.int (xs (i + 1)), .int (xs (i + 2))]) (o := (some (.int r), σm1)) C (ld_5 23 rfl) rfl zlm_5 F_X11_hand rfl (c_X11_hand XM 40 (by omega) 0 (xs (i + 1)) (xs (i + 2)) σm r σm1 h2) rfl rfl (Nat.le_of_ble_eq_true rfl) hcs ?_
  exact l_eqI C (ld_5 24 rfl) (by decide) (K σc1 σm1 hR1)
def ltt_6 : List (Nat × Instr × Nat) := [(466, .aload_n 1, 1), (467, .aload_n 0, 1), (468, .iload 4, 2), (470, .iconst 1, 1), (471, .iadd, 1), (472, .iaload, 1), (473, .aload_n 0, 1), (474, .iload 4, 2), (476, .iconst 2, 1), (477, .iadd, 1), (478, .iaload, 1), (479, .invokevirtual 46, 3), (482, .aload_n 2, 1), (483, .aload_n 0, 1), (484, .iload 4, 2), (486, .iconst 1, 1), (487, .iadd, 1), (488, .iaload, 1), (489, .aload_n 0, 1), (490, .iload 4, 2), (492, .iconst 2, 1), (493, .iadd, 1), (494, .iaload, 1), (495, .invokevirtual 49, 3), (498, .if_icmp .eq 1405, 3), (501, .iconst 0, 1)]
theorem ld0_6 : ∀ q ∈ ltt_6, decode code q.1 = .ok q.2 := by decide +kernel
theorem ld_6 (i : Nat) {pc n : Nat} {g : Instr} (h : ltt_6[i]? = some (pc, g, n)) : decode code pc = .ok (g, n) := ld0_6 (pc, g, n) (List.mem_of_getElem? h)
def zO_line (Rel : zS → zS → Prop) : Prop := ∀ (σc σm : zS) (a1 : Int32) (a2 : Int32), Rel σc σm → ∃ (r : Int32) (σc1 σm1 : zS), f_X10_line 0 a1 a2 σc = some (r, σc1) ∧ f_X11_line 0 a1 a2 σm = some (r, σm1) ∧ Rel σc1 σm1
theorem zll_6 : Cond.methodLink R_law 46 M_X10_line.1 ∈ zTT := zTT_in (i := 846) (by decide +kernel) rfl
theorem zlm_6 : Cond.methodLink R_law 49 M_X11_line.1 ∈ zTT := zTT_in (i := 1659) (by decide +kernel) rfl
theorem lw_case_6 {p : Program} {e : Env} {s : State} {m : MethodId} {below : List Frame} {meth : Method} {c : Code} {XC XM : zX} {cJ : ClassId} {ob b L : Nat} {xs : Nat → Int32} {i : Nat} {σc σm : zS} {g : Nat → Int64} {cells slots : Nat} {Rel : zS → zS → Prop} (C : lC p s m meth c XC XM cJ ob b L xs) (O : zO_line Rel) (hi : i + 6 ≤ L) (hcs : cells ≤ 601024 ∧ slots ≤ 7293033) (hR : Rel σc σm) (K : ∀ (σc σm : zS), Rel σc σm → lG p e s m below meth c XC XM cJ ob b 1903 i [] σc σm g cells slots) : lG p e s m below meth c XC XM cJ ob b 466 i [] σc σm g cells slots := by
  obtain ⟨r, σc1, σm1, h1, h2, hR1⟩ := O σc σm (xs (i + 1)) (xs (i + 2)) hR
  refine l_aload C (k := 1) (ld_6 0 rfl) rfl rfl ?_
  refine l_arg C 1 473 (ld_6 1 rfl) (ld_6 2 rfl) (ld_6 3 rfl) (ld_6 4 rfl) (ld_6 5 rfl) (by decide) (by omega) rfl ?_
  refine l_arg C 2 479 (ld_6 6 rfl) (ld_6 7 rfl) (ld_6 8 rfl) (ld_6 9 rfl) (ld_6 10 rfl) (by decide) (by omega) rfl ?_
  refine l_callC (n := 482) (As := [.int (xs (i + 1)), .int (xs (i + 2))]) (o := (some (.int r), σc1)) C (ld_6 11 rfl) rfl zll_6 F_X10_line rfl (c_X10_line XC 40 (by omega) 0 (xs (i + 1)) (xs (i + 2)) σc r σc1 h1) rfl rfl (Nat.le_of_ble_eq_true rfl) hcs ?_
  refine l_aload C (k := 2) (ld_6 12 rfl) rfl rfl ?_
  refine l_arg C 1 489 (ld_6 13 rfl) (ld_6 14 rfl) (ld_6 15 rfl) (ld_6 16 rfl) (ld_6 17 rfl) (by decide) (by omega) rfl ?_
  refine l_arg C 2 495 (ld_6 18 rfl) (ld_6 19 rfl) (ld_6 20 rfl) (ld_6 21 rfl) (ld_6 22 rfl) (by decide) (by omega) rfl ?_
  refine l_callM (n := 498) (As := [.int (xs (i + 1)), .int (xs (i + 2))]) (o := (some (.int r), σm1)) C (ld_6 23 rfl) rfl zlm_6 F_X11_line rfl (c_X11_line XM 40 (by omega) 0 (xs (i + 1)) (xs (i + 2)) σm r σm1 h2) rfl rfl (Nat.le_of_ble_eq_true rfl) hcs ?_
  exact l_eqI C (ld_6 24 rfl) (by decide) (K σc1 σm1 hR1)
def ltt_7 : List (Nat × Instr × Nat) := [(503, .aload_n 1, 1), (504, .aload_n 0, 1), (505, .iload 4, 2), (507, .iconst 1, 1), (508, .iadd, 1), (509, .iaload, 1), (510, .invokevirtual 50, 3), (513, .aload_n 2, 1), (514, .aload_n 0, 1), (515, .iload 4, 2), (517, .iconst 1, 1), (518, .iadd, 1), (519, .iaload, 1), (520, .invokevirtual 53, 3), (523, .if_icmp .eq 1380, 3), (526, .iconst 0, 1)]
theorem ld0_7 : ∀ q ∈ ltt_7, decode code q.1 = .ok q.2 := by decide +kernel
theorem ld_7 (i : Nat) {pc n : Nat} {g : Instr} (h : ltt_7[i]? = some (pc, g, n)) : decode code pc = .ok (g, n) := ld0_7 (pc, g, n) (List.mem_of_getElem? h)
def zO_done (Rel : zS → zS → Prop) : Prop := ∀ (σc σm : zS) (a1 : Int32), Rel σc σm → ∃ (r : Int32) (σc1 σm1 : zS), f_X10_done 0 a1 σc = some (r, σc1) ∧ f_X11_done 0 a1 σm = some (r, σm1) ∧ Rel σc1 σm1
theorem zll_7 : Cond.methodLink R_law 50 M_X10_done.1 ∈ zTT := zTT_in (i := 858) (by decide +kernel) rfl
theorem zlm_7 : Cond.methodLink R_law 53 M_X11_done.1 ∈ zTT := zTT_in (i := 1671) (by decide +kernel) rfl
theorem lw_case_7 {p : Program} {e : Env} {s : State} {m : MethodId} {below : List Frame} {meth : Method} {c : Code} {XC XM : zX} {cJ : ClassId} {ob b L : Nat} {xs : Nat → Int32} {i : Nat} {σc σm : zS} {g : Nat → Int64} {cells slots : Nat} {Rel : zS → zS → Prop} (C : lC p s m meth c XC XM cJ ob b L xs) (O : zO_done Rel) (hi : i + 6 ≤ L) (hcs : cells ≤ 601024 ∧ slots ≤ 7293033) (hR : Rel σc σm) (K : ∀ (σc σm : zS), Rel σc σm → lG p e s m below meth c XC XM cJ ob b 1903 i [] σc σm g cells slots) : lG p e s m below meth c XC XM cJ ob b 503 i [] σc σm g cells slots := by
  obtain ⟨r, σc1, σm1, h1, h2, hR1⟩ := O σc σm (xs (i + 1)) hR
  refine l_aload C (k := 1) (ld_7 0 rfl) rfl rfl ?_
  refine l_arg C 1 510 (ld_7 1 rfl) (ld_7 2 rfl) (ld_7 3 rfl) (ld_7 4 rfl) (ld_7 5 rfl) (by decide) (by omega) rfl ?_
  refine l_callC (n := 513) (As := [.int (xs (i + 1))]) (o := (some (.int r), σc1)) C (ld_7 6 rfl) rfl zll_7 F_X10_done rfl (c_X10_done XC 40 (by omega) 0 (xs (i + 1)) σc r σc1 h1) rfl rfl (Nat.le_of_ble_eq_true rfl) hcs ?_
  refine l_aload C (k := 2) (ld_7 7 rfl) rfl rfl ?_
  refine l_arg C 1 520 (ld_7 8 rfl) (ld_7 9 rfl) (ld_7 10 rfl) (ld_7 11 rfl) (ld_7 12 rfl) (by decide) (by omega) rfl ?_
  refine l_callM (n := 523) (As := [.int (xs (i + 1))]) (o := (some (.int r), σm1)) C (ld_7 13 rfl) rfl zlm_7 F_X11_done rfl (c_X11_done XM 40 (by omega) 0 (xs (i + 1)) σm r σm1 h2) rfl rfl (Nat.le_of_ble_eq_true rfl) hcs ?_
  exact l_eqI C (ld_7 14 rfl) (by decide) (K σc1 σm1 hR1)
def ltt_8 : List (Nat × Instr × Nat) := [(528, .aload_n 1, 1), (529, .aload_n 0, 1), (530, .iload 4, 2), (532, .iconst 1, 1), (533, .iadd, 1), (534, .iaload, 1), (535, .invokevirtual 54, 3), (538, .aload_n 2, 1), (539, .aload_n 0, 1), (540, .iload 4, 2), (542, .iconst 1, 1), (543, .iadd, 1), (544, .iaload, 1), (545, .invokevirtual 57, 3), (548, .if_icmp .eq 1355, 3), (551, .iconst 0, 1)]
theorem ld0_8 : ∀ q ∈ ltt_8, decode code q.1 = .ok q.2 := by decide +kernel
theorem ld_8 (i : Nat) {pc n : Nat} {g : Instr} (h : ltt_8[i]? = some (pc, g, n)) : decode code pc = .ok (g, n) := ld0_8 (pc, g, n) (List.mem_of_getElem? h)
def zO_stands (Rel : zS → zS → Prop) : Prop := ∀ (σc σm : zS) (a1 : Int32), Rel σc σm → ∃ (r : Int32) (σc1 σm1 : zS), f_X10_stands 0 a1 σc = some (r, σc1) ∧ f_X11_stands 0 a1 σm = some (r, σm1) ∧ Rel σc1 σm1
theorem zll_8 : Cond.methodLink R_law 54 M_X10_stands.1 ∈ zTT := zTT_in (i := 879) (by decide +kernel) rfl
theorem zlm_8 : Cond.methodLink R_law 57 M_X11_stands.1 ∈ zTT := zTT_in (i := 1691) (by decide +kernel) rfl
theorem lw_case_8 {p : Program} {e : Env} {s : State} {m : MethodId} {below : List Frame} {meth : Method} {c : Code} {XC XM : zX} {cJ : ClassId} {ob b L : Nat} {xs : Nat → Int32} {i : Nat} {σc σm : zS} {g : Nat → Int64} {cells slots : Nat} {Rel : zS → zS → Prop} (C : lC p s m meth c XC XM cJ ob b L xs) (O : zO_stands Rel) (hi : i + 6 ≤ L) (hcs : cells ≤ 601024 ∧ slots ≤ 7293033) (hR : Rel σc σm) (K : ∀ (σc σm : zS), Rel σc σm → lG p e s m below meth c XC XM cJ ob b 1903 i [] σc σm g cells slots) : lG p e s m below meth c XC XM cJ ob b 528 i [] σc σm g cells slots := by
  obtain ⟨r, σc1, σm1, h1, h2, hR1⟩ := O σc σm (xs (i + 1)) hR
  refine l_aload C (k := 1) (ld_8 0 rfl) rfl rfl ?_
  refine l_arg C 1 535 (ld_8 1 rfl) (ld_8 2 rfl) (ld_8 3 rfl) (ld_8 4 rfl) (ld_8 5 rfl) (by decide) (by omega) rfl ?_
  refine l_callC (n := 538) (As := [.int (xs (i + 1))]) (o := (some (.int r), σc1)) C (ld_8 6 rfl) rfl zll_8 F_X10_stands rfl (c_X10_stands XC 40 (by omega) 0 (xs (i + 1)) σc r σc1 h1) rfl rfl (Nat.le_of_ble_eq_true rfl) hcs ?_
  refine l_aload C (k := 2) (ld_8 7 rfl) rfl rfl ?_
  refine l_arg C 1 545 (ld_8 8 rfl) (ld_8 9 rfl) (ld_8 10 rfl) (ld_8 11 rfl) (ld_8 12 rfl) (by decide) (by omega) rfl ?_
  refine l_callM (n := 548) (As := [.int (xs (i + 1))]) (o := (some (.int r), σm1)) C (ld_8 13 rfl) rfl zlm_8 F_X11_stands rfl (c_X11_stands XM 40 (by omega) 0 (xs (i + 1)) σm r σm1 h2) rfl rfl (Nat.le_of_ble_eq_true rfl) hcs ?_
  exact l_eqI C (ld_8 14 rfl) (by decide) (K σc1 σm1 hR1)
def ltt_9 : List (Nat × Instr × Nat) := [(553, .aload_n 1, 1), (554, .invokevirtual 58, 3), (557, .aload_n 2, 1), (558, .invokevirtual 61, 3), (561, .if_icmp .eq 1342, 3), (564, .iconst 0, 1)]
theorem ld0_9 : ∀ q ∈ ltt_9, decode code q.1 = .ok q.2 := by decide +kernel
theorem ld_9 (i : Nat) {pc n : Nat} {g : Instr} (h : ltt_9[i]? = some (pc, g, n)) : decode code pc = .ok (g, n) := ld0_9 (pc, g, n) (List.mem_of_getElem? h)
def zO_allDone (Rel : zS → zS → Prop) : Prop := ∀ (σc σm : zS), Rel σc σm → ∃ (r : Int32) (σc1 σm1 : zS), f_X10_allDone 0  σc = some (r, σc1) ∧ f_X11_allDone 0  σm = some (r, σm1) ∧ Rel σc1 σm1
theorem zll_9 : Cond.methodLink R_law 58 M_X10_allDone.1 ∈ zTT := zTT_in (i := 883) (by decide +kernel) rfl
theorem zlm_9 : Cond.methodLink R_law 61 M_X11_allDone.1 ∈ zTT := zTT_in (i := 1695) (by decide +kernel) rfl
theorem lw_case_9 {p : Program} {e : Env} {s : State} {m : MethodId} {below : List Frame} {meth : Method} {c : Code} {XC XM : zX} {cJ : ClassId} {ob b L : Nat} {xs : Nat → Int32} {i : Nat} {σc σm : zS} {g : Nat → Int64} {cells slots : Nat} {Rel : zS → zS → Prop} (C : lC p s m meth c XC XM cJ ob b L xs) (O : zO_allDone Rel) (hi : i + 6 ≤ L) (hcs : cells ≤ 601024 ∧ slots ≤ 7293033) (hR : Rel σc σm) (K : ∀ (σc σm : zS), Rel σc σm → lG p e s m below meth c XC XM cJ ob b 1903 i [] σc σm g cells slots) : lG p e s m below meth c XC XM cJ ob b 553 i [] σc σm g cells slots := by
  obtain ⟨r, σc1, σm1, h1, h2, hR1⟩ := O σc σm  hR
  refine l_aload C (k := 1) (ld_9 0 rfl) rfl rfl ?_
  refine l_callC (n := 557) (As := []) (o := (some (.int r), σc1)) C (ld_9 1 rfl) rfl zll_9 F_X10_allDone rfl (c_X10_allDone XC 40 (by omega) 0  σc r σc1 h1) rfl rfl (Nat.le_of_ble_eq_true rfl) hcs ?_
  refine l_aload C (k := 2) (ld_9 2 rfl) rfl rfl ?_
  refine l_callM (n := 561) (As := []) (o := (some (.int r), σm1)) C (ld_9 3 rfl) rfl zlm_9 F_X11_allDone rfl (c_X11_allDone XM 40 (by omega) 0  σm r σm1 h2) rfl rfl (Nat.le_of_ble_eq_true rfl) hcs ?_
  exact l_eqI C (ld_9 4 rfl) (by decide) (K σc1 σm1 hR1)
def ltt_10 : List (Nat × Instr × Nat) := [(566, .aload_n 1, 1), (567, .invokevirtual 62, 3), (570, .aload_n 2, 1), (571, .invokevirtual 65, 3), (574, .if_icmp .eq 1329, 3), (577, .iconst 0, 1)]
theorem ld0_10 : ∀ q ∈ ltt_10, decode code q.1 = .ok q.2 := by decide +kernel
theorem ld_10 (i : Nat) {pc n : Nat} {g : Instr} (h : ltt_10[i]? = some (pc, g, n)) : decode code pc = .ok (g, n) := ld0_10 (pc, g, n) (List.mem_of_getElem? h)
def zO_ruler (Rel : zS → zS → Prop) : Prop := ∀ (σc σm : zS), Rel σc σm → ∃ (r : Int32) (σc1 σm1 : zS), f_X10_ruler 0  σc = some (r, σc1) ∧ f_X11_ruler 0  σm = some (r, σm1) ∧ Rel σc1 σm1
theorem zll_10 : Cond.methodLink R_law 62 M_X10_ruler.1 ∈ zTT := zTT_in (i := 891) (by decide +kernel) rfl
theorem zlm_10 : Cond.methodLink R_law 65 M_X11_ruler.1 ∈ zTT := zTT_in (i := 1699) (by decide +kernel) rfl
theorem lw_case_10 {p : Program} {e : Env} {s : State} {m : MethodId} {below : List Frame} {meth : Method} {c : Code} {XC XM : zX} {cJ : ClassId} {ob b L : Nat} {xs : Nat → Int32} {i : Nat} {σc σm : zS} {g : Nat → Int64} {cells slots : Nat} {Rel : zS → zS → Prop} (C : lC p s m meth c XC XM cJ ob b L xs) (O : zO_ruler Rel) (hi : i + 6 ≤ L) (hcs : cells ≤ 601024 ∧ slots ≤ 7293033) (hR : Rel σc σm) (K : ∀ (σc σm : zS), Rel σc σm → lG p e s m below meth c XC XM cJ ob b 1903 i [] σc σm g cells slots) : lG p e s m below meth c XC XM cJ ob b 566 i [] σc σm g cells slots := by
  obtain ⟨r, σc1, σm1, h1, h2, hR1⟩ := O σc σm  hR
  refine l_aload C (k := 1) (ld_10 0 rfl) rfl rfl ?_
  refine l_callC (n := 570) (As := []) (o := (some (.int r), σc1)) C (ld_10 1 rfl) rfl zll_10 F_X10_ruler rfl (c_X10_ruler XC 40 (by omega) 0  σc r σc1 h1) rfl rfl (Nat.le_of_ble_eq_true rfl) hcs ?_
  refine l_aload C (k := 2) (ld_10 2 rfl) rfl rfl ?_
  refine l_callM (n := 574) (As := []) (o := (some (.int r), σm1)) C (ld_10 3 rfl) rfl zlm_10 F_X11_ruler rfl (c_X11_ruler XM 40 (by omega) 0  σm r σm1 h2) rfl rfl (Nat.le_of_ble_eq_true rfl) hcs ?_
  exact l_eqI C (ld_10 4 rfl) (by decide) (K σc1 σm1 hR1)
def ltt_11 : List (Nat × Instr × Nat) := [(579, .aload_n 1, 1), (580, .invokevirtual 66, 3), (583, .aload_n 2, 1), (584, .invokevirtual 69, 3), (587, .if_icmp .eq 1316, 3), (590, .iconst 0, 1)]
theorem ld0_11 : ∀ q ∈ ltt_11, decode code q.1 = .ok q.2 := by decide +kernel
theorem ld_11 (i : Nat) {pc n : Nat} {g : Instr} (h : ltt_11[i]? = some (pc, g, n)) : decode code pc = .ok (g, n) := ld0_11 (pc, g, n) (List.mem_of_getElem? h)
def zO_power (Rel : zS → zS → Prop) : Prop := ∀ (σc σm : zS), Rel σc σm → ∃ (r : Int32) (σc1 σm1 : zS), f_X10_power 0  σc = some (r, σc1) ∧ f_X11_power 0  σm = some (r, σm1) ∧ Rel σc1 σm1
theorem zll_11 : Cond.methodLink R_law 66 M_X10_power.1 ∈ zTT := zTT_in (i := 901) (by decide +kernel) rfl
theorem zlm_11 : Cond.methodLink R_law 69 M_X11_power.1 ∈ zTT := zTT_in (i := 1706) (by decide +kernel) rfl
theorem lw_case_11 {p : Program} {e : Env} {s : State} {m : MethodId} {below : List Frame} {meth : Method} {c : Code} {XC XM : zX} {cJ : ClassId} {ob b L : Nat} {xs : Nat → Int32} {i : Nat} {σc σm : zS} {g : Nat → Int64} {cells slots : Nat} {Rel : zS → zS → Prop} (C : lC p s m meth c XC XM cJ ob b L xs) (O : zO_power Rel) (hi : i + 6 ≤ L) (hcs : cells ≤ 601024 ∧ slots ≤ 7293033) (hR : Rel σc σm) (K : ∀ (σc σm : zS), Rel σc σm → lG p e s m below meth c XC XM cJ ob b 1903 i [] σc σm g cells slots) : lG p e s m below meth c XC XM cJ ob b 579 i [] σc σm g cells slots := by
  obtain ⟨r, σc1, σm1, h1, h2, hR1⟩ := O σc σm  hR
  refine l_aload C (k := 1) (ld_11 0 rfl) rfl rfl ?_
  refine l_callC (n := 583) (As := []) (o := (some (.int r), σc1)) C (ld_11 1 rfl) rfl zll_11 F_X10_power rfl (c_X10_power XC 40 (by omega) 0  σc r σc1 h1) rfl rfl (Nat.le_of_ble_eq_true rfl) hcs ?_
  refine l_aload C (k := 2) (ld_11 2 rfl) rfl rfl ?_
  refine l_callM (n := 587) (As := []) (o := (some (.int r), σm1)) C (ld_11 3 rfl) rfl zlm_11 F_X11_power rfl (c_X11_power XM 40 (by omega) 0  σm r σm1 h2) rfl rfl (Nat.le_of_ble_eq_true rfl) hcs ?_
  exact l_eqI C (ld_11 4 rfl) (by decide) (K σc1 σm1 hR1)
def ltt_12 : List (Nat × Instr × Nat) := [(592, .aload_n 1, 1), (593, .aload_n 0, 1), (594, .iload 4, 2), (596, .iconst 1, 1), (597, .iadd, 1), (598, .iaload, 1), (599, .aload_n 0, 1), (600, .iload 4, 2), (602, .iconst 2, 1), (603, .iadd, 1), (604, .iaload, 1), (605, .invokevirtual 70, 3), (608, .aload_n 2, 1), (609, .aload_n 0, 1), (610, .iload 4, 2), (612, .iconst 1, 1), (613, .iadd, 1), (614, .iaload, 1), (615, .aload_n 0, 1), (616, .iload 4, 2), (618, .iconst 2, 1), (619, .iadd, 1), (620, .iaload, 1), (621, .invokevirtual 73, 3), (624, .if_icmp .eq 1279, 3), (627, .iconst 0, 1)]
theorem ld0_12 : ∀ q ∈ ltt_12, decode code q.1 = .ok q.2 := by decide +kernel
theorem ld_12 (i : Nat) {pc n : Nat} {g : Instr} (h : ltt_12[i]? = some (pc, g, n)) : decode code pc = .ok (g, n) := ld0_12 (pc, g, n) (List.mem_of_getElem? h)
def zO_doneBy (Rel : zS → zS → Prop) : Prop := ∀ (σc σm : zS) (a1 : Int32) (a2 : Int32), Rel σc σm → ∃ (r : Int32) (σc1 σm1 : zS), f_X10_doneBy 0 a1 a2 σc = some (r, σc1) ∧ f_X11_doneBy 0 a1 a2 σm = some (r, σm1) ∧ Rel σc1 σm1
theorem zll_12 : Cond.methodLink R_law 70 M_X10_doneBy.1 ∈ zTT := zTT_in (i := 909) (by decide +kernel) rfl
theorem zlm_12 : Cond.methodLink R_law 73 M_X11_doneBy.1 ∈ zTT := zTT_in (i := 1714) (by decide +kernel) rfl
theorem lw_case_12 {p : Program} {e : Env} {s : State} {m : MethodId} {below : List Frame} {meth : Method} {c : Code} {XC XM : zX} {cJ : ClassId} {ob b L : Nat} {xs : Nat → Int32} {i : Nat} {σc σm : zS} {g : Nat → Int64} {cells slots : Nat} {Rel : zS → zS → Prop} (C : lC p s m meth c XC XM cJ ob b L xs) (O : zO_doneBy Rel) (hi : i + 6 ≤ L) (hcs : cells ≤ 601024 ∧ slots ≤ 7293033) (hR : Rel σc σm) (K : ∀ (σc σm : zS), Rel σc σm → lG p e s m below meth c XC XM cJ ob b 1903 i [] σc σm g cells slots) : lG p e s m below meth c XC XM cJ ob b 592 i [] σc σm g cells slots := by
  obtain ⟨r, σc1, σm1, h1, h2, hR1⟩ := O σc σm (xs (i + 1)) (xs (i + 2)) hR
  refine l_aload C (k := 1) (ld_12 0 rfl) rfl rfl ?_
  refine l_arg C 1 599 (ld_12 1 rfl) (ld_12 2 rfl) (ld_12 3 rfl) (ld_12 4 rfl) (ld_12 5 rfl) (by decide) (by omega) rfl ?_
  refine l_arg C 2 605 (ld_12 6 rfl) (ld_12 7 rfl) (ld_12 8 rfl) (ld_12 9 rfl) (ld_12 10 rfl) (by decide) (by omega) rfl ?_
  refine l_callC (n := 608) (As := [.int (xs (i + 1)), .int (xs (i + 2))]) (o := (some (.int r), σc1)) C (ld_12 11 rfl) rfl zll_12 F_X10_doneBy rfl (c_X10_doneBy XC 40 (by omega) 0 (xs (i + 1)) (xs (i + 2)) σc r σc1 h1) rfl rfl (Nat.le_of_ble_eq_true rfl) hcs ?_
  refine l_aload C (k := 2) (ld_12 12 rfl) rfl rfl ?_
  refine l_arg C 1 615 (ld_12 13 rfl) (ld_12 14 rfl) (ld_12 15 rfl) (ld_12 16 rfl) (ld_12 17 rfl) (by decide) (by omega) rfl ?_
  refine l_arg C 2 621 (ld_12 18 rfl) (ld_12 19 rfl) (ld_12 20 rfl) (ld_12 21 rfl) (ld_12 22 rfl) (by decide) (by omega) rfl ?_
  refine l_callM (n := 624) (As := [.int (xs (i + 1)), .int (xs (i + 2))]) (o := (some (.int r), σm1)) C (ld_12 23 rfl) rfl zlm_12 F_X11_doneBy rfl (c_X11_doneBy XM 40 (by omega) 0 (xs (i + 1)) (xs (i + 2)) σm r σm1 h2) rfl rfl (Nat.le_of_ble_eq_true rfl) hcs ?_
  exact l_eqI C (ld_12 24 rfl) (by decide) (K σc1 σm1 hR1)
def ltt_13 : List (Nat × Instr × Nat) := [(629, .aload_n 1, 1), (630, .aload_n 0, 1), (631, .iload 4, 2), (633, .iconst 1, 1), (634, .iadd, 1), (635, .iaload, 1), (636, .invokevirtual 74, 3), (639, .aload_n 2, 1), (640, .aload_n 0, 1), (641, .iload 4, 2), (643, .iconst 1, 1), (644, .iadd, 1), (645, .iaload, 1), (646, .invokevirtual 77, 3), (649, .if_icmp .eq 1254, 3), (652, .iconst 0, 1)]
theorem ld0_13 : ∀ q ∈ ltt_13, decode code q.1 = .ok q.2 := by decide +kernel
theorem ld_13 (i : Nat) {pc n : Nat} {g : Instr} (h : ltt_13[i]? = some (pc, g, n)) : decode code pc = .ok (g, n) := ld0_13 (pc, g, n) (List.mem_of_getElem? h)
def zO_changes (Rel : zS → zS → Prop) : Prop := ∀ (σc σm : zS) (a1 : Int32), Rel σc σm → ∃ (r : Int32) (σc1 σm1 : zS), f_X10_changes 0 a1 σc = some (r, σc1) ∧ f_X11_changes 0 a1 σm = some (r, σm1) ∧ Rel σc1 σm1
theorem zll_13 : Cond.methodLink R_law 74 M_X10_changes.1 ∈ zTT := zTT_in (i := 917) (by decide +kernel) rfl
theorem zlm_13 : Cond.methodLink R_law 77 M_X11_changes.1 ∈ zTT := zTT_in (i := 1722) (by decide +kernel) rfl
theorem lw_case_13 {p : Program} {e : Env} {s : State} {m : MethodId} {below : List Frame} {meth : Method} {c : Code} {XC XM : zX} {cJ : ClassId} {ob b L : Nat} {xs : Nat → Int32} {i : Nat} {σc σm : zS} {g : Nat → Int64} {cells slots : Nat} {Rel : zS → zS → Prop} (C : lC p s m meth c XC XM cJ ob b L xs) (O : zO_changes Rel) (hi : i + 6 ≤ L) (hcs : cells ≤ 601024 ∧ slots ≤ 7293033) (hR : Rel σc σm) (K : ∀ (σc σm : zS), Rel σc σm → lG p e s m below meth c XC XM cJ ob b 1903 i [] σc σm g cells slots) : lG p e s m below meth c XC XM cJ ob b 629 i [] σc σm g cells slots := by
  obtain ⟨r, σc1, σm1, h1, h2, hR1⟩ := O σc σm (xs (i + 1)) hR
  refine l_aload C (k := 1) (ld_13 0 rfl) rfl rfl ?_
  refine l_arg C 1 636 (ld_13 1 rfl) (ld_13 2 rfl) (ld_13 3 rfl) (ld_13 4 rfl) (ld_13 5 rfl) (by decide) (by omega) rfl ?_
  refine l_callC (n := 639) (As := [.int (xs (i + 1))]) (o := (some (.int r), σc1)) C (ld_13 6 rfl) rfl zll_13 F_X10_changes rfl (c_X10_changes XC 40 (by omega) 0 (xs (i + 1)) σc r σc1 h1) rfl rfl (Nat.le_of_ble_eq_true rfl) hcs ?_
  refine l_aload C (k := 2) (ld_13 7 rfl) rfl rfl ?_
  refine l_arg C 1 646 (ld_13 8 rfl) (ld_13 9 rfl) (ld_13 10 rfl) (ld_13 11 rfl) (ld_13 12 rfl) (by decide) (by omega) rfl ?_
  refine l_callM (n := 649) (As := [.int (xs (i + 1))]) (o := (some (.int r), σm1)) C (ld_13 13 rfl) rfl zlm_13 F_X11_changes rfl (c_X11_changes XM 40 (by omega) 0 (xs (i + 1)) σm r σm1 h2) rfl rfl (Nat.le_of_ble_eq_true rfl) hcs ?_
  exact l_eqI C (ld_13 14 rfl) (by decide) (K σc1 σm1 hR1)
def ltt_14 : List (Nat × Instr × Nat) := [(654, .aload_n 1, 1), (655, .aload_n 0, 1), (656, .iload 4, 2), (658, .iconst 1, 1), (659, .iadd, 1), (660, .iaload, 1), (661, .invokevirtual 78, 3), (664, .aload_n 2, 1), (665, .aload_n 0, 1), (666, .iload 4, 2), (668, .iconst 1, 1), (669, .iadd, 1), (670, .iaload, 1), (671, .invokevirtual 81, 3), (674, .if_icmp .eq 1229, 3), (677, .iconst 0, 1)]
theorem ld0_14 : ∀ q ∈ ltt_14, decode code q.1 = .ok q.2 := by decide +kernel
theorem ld_14 (i : Nat) {pc n : Nat} {g : Instr} (h : ltt_14[i]? = some (pc, g, n)) : decode code pc = .ok (g, n) := ld0_14 (pc, g, n) (List.mem_of_getElem? h)
def zO_since (Rel : zS → zS → Prop) : Prop := ∀ (σc σm : zS) (a1 : Int32), Rel σc σm → ∃ (r : Int32) (σc1 σm1 : zS), f_X10_since 0 a1 σc = some (r, σc1) ∧ f_X11_since 0 a1 σm = some (r, σm1) ∧ Rel σc1 σm1
theorem zll_14 : Cond.methodLink R_law 78 M_X10_since.1 ∈ zTT := zTT_in (i := 921) (by decide +kernel) rfl
theorem zlm_14 : Cond.methodLink R_law 81 M_X11_since.1 ∈ zTT := zTT_in (i := 1726) (by decide +kernel) rfl
theorem lw_case_14 {p : Program} {e : Env} {s : State} {m : MethodId} {below : List Frame} {meth : Method} {c : Code} {XC XM : zX} {cJ : ClassId} {ob b L : Nat} {xs : Nat → Int32} {i : Nat} {σc σm : zS} {g : Nat → Int64} {cells slots : Nat} {Rel : zS → zS → Prop} (C : lC p s m meth c XC XM cJ ob b L xs) (O : zO_since Rel) (hi : i + 6 ≤ L) (hcs : cells ≤ 601024 ∧ slots ≤ 7293033) (hR : Rel σc σm) (K : ∀ (σc σm : zS), Rel σc σm → lG p e s m below meth c XC XM cJ ob b 1903 i [] σc σm g cells slots) : lG p e s m below meth c XC XM cJ ob b 654 i [] σc σm g cells slots := by
  obtain ⟨r, σc1, σm1, h1, h2, hR1⟩ := O σc σm (xs (i + 1)) hR
  refine l_aload C (k := 1) (ld_14 0 rfl) rfl rfl ?_
  refine l_arg C 1 661 (ld_14 1 rfl) (ld_14 2 rfl) (ld_14 3 rfl) (ld_14 4 rfl) (ld_14 5 rfl) (by decide) (by omega) rfl ?_
  refine l_callC (n := 664) (As := [.int (xs (i + 1))]) (o := (some (.int r), σc1)) C (ld_14 6 rfl) rfl zll_14 F_X10_since rfl (c_X10_since XC 40 (by omega) 0 (xs (i + 1)) σc r σc1 h1) rfl rfl (Nat.le_of_ble_eq_true rfl) hcs ?_
  refine l_aload C (k := 2) (ld_14 7 rfl) rfl rfl ?_
  refine l_arg C 1 671 (ld_14 8 rfl) (ld_14 9 rfl) (ld_14 10 rfl) (ld_14 11 rfl) (ld_14 12 rfl) (by decide) (by omega) rfl ?_
  refine l_callM (n := 674) (As := [.int (xs (i + 1))]) (o := (some (.int r), σm1)) C (ld_14 13 rfl) rfl zlm_14 F_X11_since rfl (c_X11_since XM 40 (by omega) 0 (xs (i + 1)) σm r σm1 h2) rfl rfl (Nat.le_of_ble_eq_true rfl) hcs ?_
  exact l_eqI C (ld_14 14 rfl) (by decide) (K σc1 σm1 hR1)
def ltt_15 : List (Nat × Instr × Nat) := [(679, .aload_n 1, 1), (680, .invokevirtual 82, 3), (683, .aload_n 2, 1), (684, .invokevirtual 85, 3), (687, .if_icmp .eq 1216, 3), (690, .iconst 0, 1)]
theorem ld0_15 : ∀ q ∈ ltt_15, decode code q.1 = .ok q.2 := by decide +kernel
theorem ld_15 (i : Nat) {pc n : Nat} {g : Instr} (h : ltt_15[i]? = some (pc, g, n)) : decode code pc = .ok (g, n) := ld0_15 (pc, g, n) (List.mem_of_getElem? h)
def zO_idle (Rel : zS → zS → Prop) : Prop := ∀ (σc σm : zS), Rel σc σm → ∃ (r : Int32) (σc1 σm1 : zS), f_X10_idle 0  σc = some (r, σc1) ∧ f_X11_idle 0  σm = some (r, σm1) ∧ Rel σc1 σm1
theorem zll_15 : Cond.methodLink R_law 82 M_X10_idle.1 ∈ zTT := zTT_in (i := 925) (by decide +kernel) rfl
theorem zlm_15 : Cond.methodLink R_law 85 M_X11_idle.1 ∈ zTT := zTT_in (i := 1730) (by decide +kernel) rfl
theorem lw_case_15 {p : Program} {e : Env} {s : State} {m : MethodId} {below : List Frame} {meth : Method} {c : Code} {XC XM : zX} {cJ : ClassId} {ob b L : Nat} {xs : Nat → Int32} {i : Nat} {σc σm : zS} {g : Nat → Int64} {cells slots : Nat} {Rel : zS → zS → Prop} (C : lC p s m meth c XC XM cJ ob b L xs) (O : zO_idle Rel) (hi : i + 6 ≤ L) (hcs : cells ≤ 601024 ∧ slots ≤ 7293033) (hR : Rel σc σm) (K : ∀ (σc σm : zS), Rel σc σm → lG p e s m below meth c XC XM cJ ob b 1903 i [] σc σm g cells slots) : lG p e s m below meth c XC XM cJ ob b 679 i [] σc σm g cells slots := by
  obtain ⟨r, σc1, σm1, h1, h2, hR1⟩ := O σc σm  hR
  refine l_aload C (k := 1) (ld_15 0 rfl) rfl rfl ?_
  refine l_callC (n := 683) (As := []) (o := (some (.int r), σc1)) C (ld_15 1 rfl) rfl zll_15 F_X10_idle rfl (c_X10_idle XC 40 (by omega) 0  σc r σc1 h1) rfl rfl (Nat.le_of_ble_eq_true rfl) hcs ?_
  refine l_aload C (k := 2) (ld_15 2 rfl) rfl rfl ?_
  refine l_callM (n := 687) (As := []) (o := (some (.int r), σm1)) C (ld_15 3 rfl) rfl zlm_15 F_X11_idle rfl (c_X11_idle XM 40 (by omega) 0  σm r σm1 h2) rfl rfl (Nat.le_of_ble_eq_true rfl) hcs ?_
  exact l_eqI C (ld_15 4 rfl) (by decide) (K σc1 σm1 hR1)
def ltt_16 : List (Nat × Instr × Nat) := [(692, .aload_n 1, 1), (693, .aload_n 0, 1), (694, .iload 4, 2), (696, .iconst 1, 1), (697, .iadd, 1), (698, .iaload, 1), (699, .invokevirtual 86, 3), (702, .aload_n 2, 1), (703, .aload_n 0, 1), (704, .iload 4, 2), (706, .iconst 1, 1), (707, .iadd, 1), (708, .iaload, 1), (709, .invokevirtual 89, 3), (712, .if_icmp .eq 1191, 3), (715, .iconst 0, 1)]
theorem ld0_16 : ∀ q ∈ ltt_16, decode code q.1 = .ok q.2 := by decide +kernel
theorem ld_16 (i : Nat) {pc n : Nat} {g : Instr} (h : ltt_16[i]? = some (pc, g, n)) : decode code pc = .ok (g, n) := ld0_16 (pc, g, n) (List.mem_of_getElem? h)
def zO_turn (Rel : zS → zS → Prop) : Prop := ∀ (σc σm : zS) (a1 : Int32), Rel σc σm → ∃ (r : Int32) (σc1 σm1 : zS), f_X10_turn 0 a1 σc = some (r, σc1) ∧ f_X11_turn 0 a1 σm = some (r, σm1) ∧ Rel σc1 σm1
theorem zll_16 : Cond.methodLink R_law 86 M_X10_turn.1 ∈ zTT := zTT_in (i := 929) (by decide +kernel) rfl
theorem zlm_16 : Cond.methodLink R_law 89 M_X11_turn.1 ∈ zTT := zTT_in (i := 1734) (by decide +kernel) rfl
theorem lw_case_16 {p : Program} {e : Env} {s : State} {m : MethodId} {below : List Frame} {meth : Method} {c : Code} {XC XM : zX} {cJ : ClassId} {ob b L : Nat} {xs : Nat → Int32} {i : Nat} {σc σm : zS} {g : Nat → Int64} {cells slots : Nat} {Rel : zS → zS → Prop} (C : lC p s m meth c XC XM cJ ob b L xs) (O : zO_turn Rel) (hi : i + 6 ≤ L) (hcs : cells ≤ 601024 ∧ slots ≤ 7293033) (hR : Rel σc σm) (K : ∀ (σc σm : zS), Rel σc σm → lG p e s m below meth c XC XM cJ ob b 1903 i [] σc σm g cells slots) : lG p e s m below meth c XC XM cJ ob b 692 i [] σc σm g cells slots := by
  obtain ⟨r, σc1, σm1, h1, h2, hR1⟩ := O σc σm (xs (i + 1)) hR
  refine l_aload C (k := 1) (ld_16 0 rfl) rfl rfl ?_
  refine l_arg C 1 699 (ld_16 1 rfl) (ld_16 2 rfl) (ld_16 3 rfl) (ld_16 4 rfl) (ld_16 5 rfl) (by decide) (by omega) rfl ?_
  refine l_callC (n := 702) (As := [.int (xs (i + 1))]) (o := (some (.int r), σc1)) C (ld_16 6 rfl) rfl zll_16 F_X10_turn rfl (c_X10_turn XC 40 (by omega) 0 (xs (i + 1)) σc r σc1 h1) rfl rfl (Nat.le_of_ble_eq_true rfl) hcs ?_
  refine l_aload C (k := 2) (ld_16 7 rfl) rfl rfl ?_
  refine l_arg C 1 709 (ld_16 8 rfl) (ld_16 9 rfl) (ld_16 10 rfl) (ld_16 11 rfl) (ld_16 12 rfl) (by decide) (by omega) rfl ?_
  refine l_callM (n := 712) (As := [.int (xs (i + 1))]) (o := (some (.int r), σm1)) C (ld_16 13 rfl) rfl zlm_16 F_X11_turn rfl (c_X11_turn XM 40 (by omega) 0 (xs (i + 1)) σm r σm1 h2) rfl rfl (Nat.le_of_ble_eq_true rfl) hcs ?_
  exact l_eqI C (ld_16 14 rfl) (by decide) (K σc1 σm1 hR1)
def ltt_17 : List (Nat × Instr × Nat) := [(717, .aload_n 1, 1), (718, .invokevirtual 90, 3), (721, .aload_n 2, 1), (722, .invokevirtual 93, 3), (725, .if_icmp .eq 1178, 3), (728, .iconst 0, 1)]
theorem ld0_17 : ∀ q ∈ ltt_17, decode code q.1 = .ok q.2 := by decide +kernel
theorem ld_17 (i : Nat) {pc n : Nat} {g : Instr} (h : ltt_17[i]? = some (pc, g, n)) : decode code pc = .ok (g, n) := ld0_17 (pc, g, n) (List.mem_of_getElem? h)
def zO_weakest (Rel : zS → zS → Prop) : Prop := ∀ (σc σm : zS), Rel σc σm → ∃ (r : Int32) (σc1 σm1 : zS), f_X10_weakest 0  σc = some (r, σc1) ∧ f_X11_weakest 0  σm = some (r, σm1) ∧ Rel σc1 σm1
theorem zll_17 : Cond.methodLink R_law 90 M_X10_weakest.1 ∈ zTT := zTT_in (i := 941) (by decide +kernel) rfl
theorem zlm_17 : Cond.methodLink R_law 93 M_X11_weakest.1 ∈ zTT := zTT_in (i := 1746) (by decide +kernel) rfl
theorem lw_case_17 {p : Program} {e : Env} {s : State} {m : MethodId} {below : List Frame} {meth : Method} {c : Code} {XC XM : zX} {cJ : ClassId} {ob b L : Nat} {xs : Nat → Int32} {i : Nat} {σc σm : zS} {g : Nat → Int64} {cells slots : Nat} {Rel : zS → zS → Prop} (C : lC p s m meth c XC XM cJ ob b L xs) (O : zO_weakest Rel) (hi : i + 6 ≤ L) (hcs : cells ≤ 601024 ∧ slots ≤ 7293033) (hR : Rel σc σm) (K : ∀ (σc σm : zS), Rel σc σm → lG p e s m below meth c XC XM cJ ob b 1903 i [] σc σm g cells slots) : lG p e s m below meth c XC XM cJ ob b 717 i [] σc σm g cells slots := by
  obtain ⟨r, σc1, σm1, h1, h2, hR1⟩ := O σc σm  hR
  refine l_aload C (k := 1) (ld_17 0 rfl) rfl rfl ?_
  refine l_callC (n := 721) (As := []) (o := (some (.int r), σc1)) C (ld_17 1 rfl) rfl zll_17 F_X10_weakest rfl (c_X10_weakest XC 40 (by omega) 0  σc r σc1 h1) rfl rfl (Nat.le_of_ble_eq_true rfl) hcs ?_
  refine l_aload C (k := 2) (ld_17 2 rfl) rfl rfl ?_
  refine l_callM (n := 725) (As := []) (o := (some (.int r), σm1)) C (ld_17 3 rfl) rfl zlm_17 F_X11_weakest rfl (c_X11_weakest XM 40 (by omega) 0  σm r σm1 h2) rfl rfl (Nat.le_of_ble_eq_true rfl) hcs ?_
  exact l_eqI C (ld_17 4 rfl) (by decide) (K σc1 σm1 hR1)
def ltt_18 : List (Nat × Instr × Nat) := [(730, .aload_n 1, 1), (731, .aload_n 0, 1), (732, .iload 4, 2), (734, .iconst 1, 1), (735, .iadd, 1), (736, .iaload, 1), (737, .aload_n 0, 1), (738, .iload 4, 2), (740, .iconst 2, 1), (741, .iadd, 1), (742, .iaload, 1), (743, .ifCond .eq 7, 3), (746, .iconst 1, 1), (747, .goto 4, 3), (750, .iconst 0, 1), (751, .invokevirtual 94, 3), (754, .aload_n 2, 1), (755, .aload_n 0, 1), (756, .iload 4, 2), (758, .iconst 1, 1), (759, .iadd, 1), (760, .iaload, 1), (761, .aload_n 0, 1), (762, .iload 4, 2), (764, .iconst 2, 1), (765, .iadd, 1), (766, .iaload, 1), (767, .ifCond .eq 7, 3), (770, .iconst 1, 1), (771, .goto 4, 3), (774, .iconst 0, 1), (775, .invokevirtual 98, 3), (778, .if_icmp .eq 1125, 3), (781, .iconst 0, 1)]
theorem ld0_18 : ∀ q ∈ ltt_18, decode code q.1 = .ok q.2 := by decide +kernel
theorem ld_18 (i : Nat) {pc n : Nat} {g : Instr} (h : ltt_18[i]? = some (pc, g, n)) : decode code pc = .ok (g, n) := ld0_18 (pc, g, n) (List.mem_of_getElem? h)
def zO_holds (Rel : zS → zS → Prop) : Prop := ∀ (σc σm : zS) (a1 : Int32) (a2 : Int32), Rel σc σm → ∃ (r : Int32) (σc1 σm1 : zS), f_X10_holds 0 a1 a2 σc = some (r, σc1) ∧ f_X11_holds 0 a1 a2 σm = some (r, σm1) ∧ Rel σc1 σm1
theorem zll_18 : Cond.methodLink R_law 94 M_X10_holds.1 ∈ zTT := zTT_in (i := 945) (by decide +kernel) rfl
theorem zlm_18 : Cond.methodLink R_law 98 M_X11_holds.1 ∈ zTT := zTT_in (i := 1750) (by decide +kernel) rfl
theorem lw_case_18 {p : Program} {e : Env} {s : State} {m : MethodId} {below : List Frame} {meth : Method} {c : Code} {XC XM : zX} {cJ : ClassId} {ob b L : Nat} {xs : Nat → Int32} {i : Nat} {σc σm : zS} {g : Nat → Int64} {cells slots : Nat} {Rel : zS → zS → Prop} (C : lC p s m meth c XC XM cJ ob b L xs) (O : zO_holds Rel) (hi : i + 6 ≤ L) (hcs : cells ≤ 601024 ∧ slots ≤ 7293033) (hR : Rel σc σm) (K : ∀ (σc σm : zS), Rel σc σm → lG p e s m below meth c XC XM cJ ob b 1903 i [] σc σm g cells slots) : lG p e s m below meth c XC XM cJ ob b 730 i [] σc σm g cells slots := by
  obtain ⟨r, σc1, σm1, h1, h2, hR1⟩ := O σc σm (xs (i + 1)) (zbo (xs (i + 2))) hR
  refine l_aload C (k := 1) (ld_18 0 rfl) rfl rfl ?_
  refine l_arg C 1 737 (ld_18 1 rfl) (ld_18 2 rfl) (ld_18 3 rfl) (ld_18 4 rfl) (ld_18 5 rfl) (by decide) (by omega) rfl ?_
  refine l_arg C 2 743 (ld_18 6 rfl) (ld_18 7 rfl) (ld_18 8 rfl) (ld_18 9 rfl) (ld_18 10 rfl) (by decide) (by omega) rfl ?_
  refine l_bool C 751 (ld_18 11 rfl) (ld_18 12 rfl) (ld_18 13 rfl) (ld_18 14 rfl) rfl ?_
  refine l_callC (n := 754) (As := [.int (xs (i + 1)), .int (zbo (xs (i + 2)))]) (o := (some (.int r), σc1)) C (ld_18 15 rfl) rfl zll_18 F_X10_holds rfl (c_X10_holds XC 40 (by omega) 0 (xs (i + 1)) (zbo (xs (i + 2))) σc r σc1 h1) rfl rfl (Nat.le_of_ble_eq_true rfl) hcs ?_
  refine l_aload C (k := 2) (ld_18 16 rfl) rfl rfl ?_
  refine l_arg C 1 761 (ld_18 17 rfl) (ld_18 18 rfl) (ld_18 19 rfl) (ld_18 20 rfl) (ld_18 21 rfl) (by decide) (by omega) rfl ?_
  refine l_arg C 2 767 (ld_18 22 rfl) (ld_18 23 rfl) (ld_18 24 rfl) (ld_18 25 rfl) (ld_18 26 rfl) (by decide) (by omega) rfl ?_
  refine l_bool C 775 (ld_18 27 rfl) (ld_18 28 rfl) (ld_18 29 rfl) (ld_18 30 rfl) rfl ?_
  refine l_callM (n := 778) (As := [.int (xs (i + 1)), .int (zbo (xs (i + 2)))]) (o := (some (.int r), σm1)) C (ld_18 31 rfl) rfl zlm_18 F_X11_holds rfl (c_X11_holds XM 40 (by omega) 0 (xs (i + 1)) (zbo (xs (i + 2))) σm r σm1 h2) rfl rfl (Nat.le_of_ble_eq_true rfl) hcs ?_
  exact l_eqI C (ld_18 32 rfl) (by decide) (K σc1 σm1 hR1)
def ltt_19 : List (Nat × Instr × Nat) := [(783, .aload_n 1, 1), (784, .aload_n 0, 1), (785, .iload 4, 2), (787, .iconst 1, 1), (788, .iadd, 1), (789, .iaload, 1), (790, .aload_n 0, 1), (791, .iload 4, 2), (793, .iconst 2, 1), (794, .iadd, 1), (795, .iaload, 1), (796, .aload_n 0, 1), (797, .iload 4, 2), (799, .iconst 3, 1), (800, .iadd, 1), (801, .iaload, 1), (802, .ifCond .eq 7, 3), (805, .iconst 1, 1), (806, .goto 4, 3), (809, .iconst 0, 1), (810, .invokevirtual 99, 3), (813, .aload_n 2, 1), (814, .aload_n 0, 1), (815, .iload 4, 2), (817, .iconst 1, 1), (818, .iadd, 1), (819, .iaload, 1), (820, .aload_n 0, 1), (821, .iload 4, 2), (823, .iconst 2, 1), (824, .iadd, 1), (825, .iaload, 1), (826, .aload_n 0, 1), (827, .iload 4, 2), (829, .iconst 3, 1), (830, .iadd, 1), (831, .iaload, 1), (832, .ifCond .eq 7, 3), (835, .iconst 1, 1), (836, .goto 4, 3), (839, .iconst 0, 1), (840, .invokevirtual 103, 3), (843, .if_icmp .eq 1060, 3), (846, .iconst 0, 1)]
theorem ld0_19 : ∀ q ∈ ltt_19, decode code q.1 = .ok q.2 := by decide +kernel
theorem ld_19 (i : Nat) {pc n : Nat} {g : Instr} (h : ltt_19[i]? = some (pc, g, n)) : decode code pc = .ok (g, n) := ld0_19 (pc, g, n) (List.mem_of_getElem? h)
def zO_doneIf (Rel : zS → zS → Prop) : Prop := ∀ (σc σm : zS) (a1 : Int32) (a2 : Int32) (a3 : Int32), Rel σc σm → ∃ (r : Int32) (σc1 σm1 : zS), f_X10_doneIf 0 a1 a2 a3 σc = some (r, σc1) ∧ f_X11_doneIf 0 a1 a2 a3 σm = some (r, σm1) ∧ Rel σc1 σm1
theorem zll_19 : Cond.methodLink R_law 99 M_X10_doneIf.1 ∈ zTT := zTT_in (i := 953) (by decide +kernel) rfl
theorem zlm_19 : Cond.methodLink R_law 103 M_X11_doneIf.1 ∈ zTT := zTT_in (i := 1774) (by decide +kernel) rfl
theorem lw_case_19 {p : Program} {e : Env} {s : State} {m : MethodId} {below : List Frame} {meth : Method} {c : Code} {XC XM : zX} {cJ : ClassId} {ob b L : Nat} {xs : Nat → Int32} {i : Nat} {σc σm : zS} {g : Nat → Int64} {cells slots : Nat} {Rel : zS → zS → Prop} (C : lC p s m meth c XC XM cJ ob b L xs) (O : zO_doneIf Rel) (hi : i + 6 ≤ L) (hcs : cells ≤ 601024 ∧ slots ≤ 7293033) (hR : Rel σc σm) (K : ∀ (σc σm : zS), Rel σc σm → lG p e s m below meth c XC XM cJ ob b 1903 i [] σc σm g cells slots) : lG p e s m below meth c XC XM cJ ob b 783 i [] σc σm g cells slots := by
  obtain ⟨r, σc1, σm1, h1, h2, hR1⟩ := O σc σm (xs (i + 1)) (xs (i + 2)) (zbo (xs (i + 3))) hR
  refine l_aload C (k := 1) (ld_19 0 rfl) rfl rfl ?_
  refine l_arg C 1 790 (ld_19 1 rfl) (ld_19 2 rfl) (ld_19 3 rfl) (ld_19 4 rfl) (ld_19 5 rfl) (by decide) (by omega) rfl ?_
  refine l_arg C 2 796 (ld_19 6 rfl) (ld_19 7 rfl) (ld_19 8 rfl) (ld_19 9 rfl) (ld_19 10 rfl) (by decide) (by omega) rfl ?_
  refine l_arg C 3 802 (ld_19 11 rfl) (ld_19 12 rfl) (ld_19 13 rfl) (ld_19 14 rfl) (ld_19 15 rfl) (by decide) (by omega) rfl ?_
  refine l_bool C 810 (ld_19 16 rfl) (ld_19 17 rfl) (ld_19 18 rfl) (ld_19 19 rfl) rfl ?_
  refine l_callC (n := 813) (As := [.int (xs (i + 1)), .int (xs (i + 2)), .int (zbo (xs (i + 3)))]) (o := (some (.int r), σc1)) C (ld_19 20 rfl) rfl zll_19 F_X10_doneIf rfl (c_X10_doneIf XC 40 (by omega) 0 (xs (i + 1)) (xs (i + 2)) (zbo (xs (i + 3))) σc r σc1 h1) rfl rfl (Nat.le_of_ble_eq_true rfl) hcs ?_
  refine l_aload C (k := 2) (ld_19 21 rfl) rfl rfl ?_
  refine l_arg C 1 820 (ld_19 22 rfl) (ld_19 23 rfl) (ld_19 24 rfl) (ld_19 25 rfl) (ld_19 26 rfl) (by decide) (by omega) rfl ?_
  refine l_arg C 2 826 (ld_19 27 rfl) (ld_19 28 rfl) (ld_19 29 rfl) (ld_19 30 rfl) (ld_19 31 rfl) (by decide) (by omega) rfl ?_
  refine l_arg C 3 832 (ld_19 32 rfl) (ld_19 33 rfl) (ld_19 34 rfl) (ld_19 35 rfl) (ld_19 36 rfl) (by decide) (by omega) rfl ?_
  refine l_bool C 840 (ld_19 37 rfl) (ld_19 38 rfl) (ld_19 39 rfl) (ld_19 40 rfl) rfl ?_
  refine l_callM (n := 843) (As := [.int (xs (i + 1)), .int (xs (i + 2)), .int (zbo (xs (i + 3)))]) (o := (some (.int r), σm1)) C (ld_19 41 rfl) rfl zlm_19 F_X11_doneIf rfl (c_X11_doneIf XM 40 (by omega) 0 (xs (i + 1)) (xs (i + 2)) (zbo (xs (i + 3))) σm r σm1 h2) rfl rfl (Nat.le_of_ble_eq_true rfl) hcs ?_
  exact l_eqI C (ld_19 42 rfl) (by decide) (K σc1 σm1 hR1)
def ltt_20 : List (Nat × Instr × Nat) := [(848, .aload_n 1, 1), (849, .aload_n 0, 1), (850, .iload 4, 2), (852, .iconst 1, 1), (853, .iadd, 1), (854, .iaload, 1), (855, .aload_n 0, 1), (856, .iload 4, 2), (858, .iconst 2, 1), (859, .iadd, 1), (860, .iaload, 1), (861, .invokevirtual 104, 3), (864, .aload_n 2, 1), (865, .aload_n 0, 1), (866, .iload 4, 2), (868, .iconst 1, 1), (869, .iadd, 1), (870, .iaload, 1), (871, .aload_n 0, 1), (872, .iload 4, 2), (874, .iconst 2, 1), (875, .iadd, 1), (876, .iaload, 1), (877, .invokevirtual 107, 3), (880, .if_icmp .eq 1023, 3), (883, .iconst 0, 1)]
theorem ld0_20 : ∀ q ∈ ltt_20, decode code q.1 = .ok q.2 := by decide +kernel
theorem ld_20 (i : Nat) {pc n : Nat} {g : Instr} (h : ltt_20[i]? = some (pc, g, n)) : decode code pc = .ok (g, n) := ld0_20 (pc, g, n) (List.mem_of_getElem? h)
def zO_wins (Rel : zS → zS → Prop) : Prop := ∀ (σc σm : zS) (a1 : Int32) (a2 : Int32), Rel σc σm → ∃ (r : Int32) (σc1 σm1 : zS), f_X10_wins 0 a1 a2 σc = some (r, σc1) ∧ f_X11_wins 0 a1 a2 σm = some (r, σm1) ∧ Rel σc1 σm1
theorem zll_20 : Cond.methodLink R_law 104 M_X10_wins.1 ∈ zTT := zTT_in (i := 957) (by decide +kernel) rfl
theorem zlm_20 : Cond.methodLink R_law 107 M_X11_wins.1 ∈ zTT := zTT_in (i := 1778) (by decide +kernel) rfl
theorem lw_case_20 {p : Program} {e : Env} {s : State} {m : MethodId} {below : List Frame} {meth : Method} {c : Code} {XC XM : zX} {cJ : ClassId} {ob b L : Nat} {xs : Nat → Int32} {i : Nat} {σc σm : zS} {g : Nat → Int64} {cells slots : Nat} {Rel : zS → zS → Prop} (C : lC p s m meth c XC XM cJ ob b L xs) (O : zO_wins Rel) (hi : i + 6 ≤ L) (hcs : cells ≤ 601024 ∧ slots ≤ 7293033) (hR : Rel σc σm) (K : ∀ (σc σm : zS), Rel σc σm → lG p e s m below meth c XC XM cJ ob b 1903 i [] σc σm g cells slots) : lG p e s m below meth c XC XM cJ ob b 848 i [] σc σm g cells slots := by
  obtain ⟨r, σc1, σm1, h1, h2, hR1⟩ := O σc σm (xs (i + 1)) (xs (i + 2)) hR
  refine l_aload C (k := 1) (ld_20 0 rfl) rfl rfl ?_
  refine l_arg C 1 855 (ld_20 1 rfl) (ld_20 2 rfl) (ld_20 3 rfl) (ld_20 4 rfl) (ld_20 5 rfl) (by decide) (by omega) rfl ?_
  refine l_arg C 2 861 (ld_20 6 rfl) (ld_20 7 rfl) (ld_20 8 rfl) (ld_20 9 rfl) (ld_20 10 rfl) (by decide) (by omega) rfl ?_
  refine l_callC (n := 864) (As := [.int (xs (i + 1)), .int (xs (i + 2))]) (o := (some (.int r), σc1)) C (ld_20 11 rfl) rfl zll_20 F_X10_wins rfl (c_X10_wins XC 40 (by omega) 0 (xs (i + 1)) (xs (i + 2)) σc r σc1 h1) rfl rfl (Nat.le_of_ble_eq_true rfl) hcs ?_
  refine l_aload C (k := 2) (ld_20 12 rfl) rfl rfl ?_
  refine l_arg C 1 871 (ld_20 13 rfl) (ld_20 14 rfl) (ld_20 15 rfl) (ld_20 16 rfl) (ld_20 17 rfl) (by decide) (by omega) rfl ?_
  refine l_arg C 2 877 (ld_20 18 rfl) (ld_20 19 rfl) (ld_20 20 rfl) (ld_20 21 rfl) (ld_20 22 rfl) (by decide) (by omega) rfl ?_
  refine l_callM (n := 880) (As := [.int (xs (i + 1)), .int (xs (i + 2))]) (o := (some (.int r), σm1)) C (ld_20 23 rfl) rfl zlm_20 F_X11_wins rfl (c_X11_wins XM 40 (by omega) 0 (xs (i + 1)) (xs (i + 2)) σm r σm1 h2) rfl rfl (Nat.le_of_ble_eq_true rfl) hcs ?_
  exact l_eqI C (ld_20 24 rfl) (by decide) (K σc1 σm1 hR1)
def ltt_21 : List (Nat × Instr × Nat) := [(885, .aload_n 1, 1), (886, .aload_n 0, 1), (887, .iload 4, 2), (889, .iconst 1, 1), (890, .iadd, 1), (891, .iaload, 1), (892, .aload_n 0, 1), (893, .iload 4, 2), (895, .iconst 2, 1), (896, .iadd, 1), (897, .iaload, 1), (898, .invokevirtual 108, 3), (901, .aload_n 2, 1), (902, .aload_n 0, 1), (903, .iload 4, 2), (905, .iconst 1, 1), (906, .iadd, 1), (907, .iaload, 1), (908, .aload_n 0, 1), (909, .iload 4, 2), (911, .iconst 2, 1), (912, .iadd, 1), (913, .iaload, 1), (914, .invokevirtual 111, 3), (917, .if_icmp .eq 986, 3), (920, .iconst 0, 1)]
theorem ld0_21 : ∀ q ∈ ltt_21, decode code q.1 = .ok q.2 := by decide +kernel
theorem ld_21 (i : Nat) {pc n : Nat} {g : Instr} (h : ltt_21[i]? = some (pc, g, n)) : decode code pc = .ok (g, n) := ld0_21 (pc, g, n) (List.mem_of_getElem? h)
def zO_winsBy (Rel : zS → zS → Prop) : Prop := ∀ (σc σm : zS) (a1 : Int32) (a2 : Int32), Rel σc σm → ∃ (r : Int32) (σc1 σm1 : zS), f_X10_winsBy 0 a1 a2 σc = some (r, σc1) ∧ f_X11_winsBy 0 a1 a2 σm = some (r, σm1) ∧ Rel σc1 σm1
theorem zll_21 : Cond.methodLink R_law 108 M_X10_winsBy.1 ∈ zTT := zTT_in (i := 975) (by decide +kernel) rfl
theorem zlm_21 : Cond.methodLink R_law 111 M_X11_winsBy.1 ∈ zTT := zTT_in (i := 1790) (by decide +kernel) rfl
theorem lw_case_21 {p : Program} {e : Env} {s : State} {m : MethodId} {below : List Frame} {meth : Method} {c : Code} {XC XM : zX} {cJ : ClassId} {ob b L : Nat} {xs : Nat → Int32} {i : Nat} {σc σm : zS} {g : Nat → Int64} {cells slots : Nat} {Rel : zS → zS → Prop} (C : lC p s m meth c XC XM cJ ob b L xs) (O : zO_winsBy Rel) (hi : i + 6 ≤ L) (hcs : cells ≤ 601024 ∧ slots ≤ 7293033) (hR : Rel σc σm) (K : ∀ (σc σm : zS), Rel σc σm → lG p e s m below meth c XC XM cJ ob b 1903 i [] σc σm g cells slots) : lG p e s m below meth c XC XM cJ ob b 885 i [] σc σm g cells slots := by
  obtain ⟨r, σc1, σm1, h1, h2, hR1⟩ := O σc σm (xs (i + 1)) (xs (i + 2)) hR
  refine l_aload C (k := 1) (ld_21 0 rfl) rfl rfl ?_
  refine l_arg C 1 892 (ld_21 1 rfl) (ld_21 2 rfl) (ld_21 3 rfl) (ld_21 4 rfl) (ld_21 5 rfl) (by decide) (by omega) rfl ?_
  refine l_arg C 2 898 (ld_21 6 rfl) (ld_21 7 rfl) (ld_21 8 rfl) (ld_21 9 rfl) (ld_21 10 rfl) (by decide) (by omega) rfl ?_
  refine l_callC (n := 901) (As := [.int (xs (i + 1)), .int (xs (i + 2))]) (o := (some (.int r), σc1)) C (ld_21 11 rfl) rfl zll_21 F_X10_winsBy rfl (c_X10_winsBy XC 40 (by omega) 0 (xs (i + 1)) (xs (i + 2)) σc r σc1 h1) rfl rfl (Nat.le_of_ble_eq_true rfl) hcs ?_
  refine l_aload C (k := 2) (ld_21 12 rfl) rfl rfl ?_
  refine l_arg C 1 908 (ld_21 13 rfl) (ld_21 14 rfl) (ld_21 15 rfl) (ld_21 16 rfl) (ld_21 17 rfl) (by decide) (by omega) rfl ?_
  refine l_arg C 2 914 (ld_21 18 rfl) (ld_21 19 rfl) (ld_21 20 rfl) (ld_21 21 rfl) (ld_21 22 rfl) (by decide) (by omega) rfl ?_
  refine l_callM (n := 917) (As := [.int (xs (i + 1)), .int (xs (i + 2))]) (o := (some (.int r), σm1)) C (ld_21 23 rfl) rfl zlm_21 F_X11_winsBy rfl (c_X11_winsBy XM 40 (by omega) 0 (xs (i + 1)) (xs (i + 2)) σm r σm1 h2) rfl rfl (Nat.le_of_ble_eq_true rfl) hcs ?_
  exact l_eqI C (ld_21 24 rfl) (by decide) (K σc1 σm1 hR1)
def ltt_22 : List (Nat × Instr × Nat) := [(922, .aload_n 1, 1), (923, .aload_n 0, 1), (924, .iload 4, 2), (926, .iconst 1, 1), (927, .iadd, 1), (928, .iaload, 1), (929, .aload_n 0, 1), (930, .iload 4, 2), (932, .iconst 2, 1), (933, .iadd, 1), (934, .iaload, 1), (935, .invokevirtual 112, 3), (938, .aload_n 2, 1), (939, .aload_n 0, 1), (940, .iload 4, 2), (942, .iconst 1, 1), (943, .iadd, 1), (944, .iaload, 1), (945, .aload_n 0, 1), (946, .iload 4, 2), (948, .iconst 2, 1), (949, .iadd, 1), (950, .iaload, 1), (951, .invokevirtual 115, 3), (954, .if_icmp .eq 949, 3), (957, .iconst 0, 1)]
theorem ld0_22 : ∀ q ∈ ltt_22, decode code q.1 = .ok q.2 := by decide +kernel
theorem ld_22 (i : Nat) {pc n : Nat} {g : Instr} (h : ltt_22[i]? = some (pc, g, n)) : decode code pc = .ok (g, n) := ld0_22 (pc, g, n) (List.mem_of_getElem? h)
def zO_outranks (Rel : zS → zS → Prop) : Prop := ∀ (σc σm : zS) (a1 : Int32) (a2 : Int32), Rel σc σm → ∃ (r : Int32) (σc1 σm1 : zS), f_X10_outranks 0 a1 a2 σc = some (r, σc1) ∧ f_X11_outranks 0 a1 a2 σm = some (r, σm1) ∧ Rel σc1 σm1
theorem zll_22 : Cond.methodLink R_law 112 M_X10_outranks.1 ∈ zTT := zTT_in (i := 983) (by decide +kernel) rfl
theorem zlm_22 : Cond.methodLink R_law 115 M_X11_outranks.1 ∈ zTT := zTT_in (i := 1794) (by decide +kernel) rfl
theorem lw_case_22 {p : Program} {e : Env} {s : State} {m : MethodId} {below : List Frame} {meth : Method} {c : Code} {XC XM : zX} {cJ : ClassId} {ob b L : Nat} {xs : Nat → Int32} {i : Nat} {σc σm : zS} {g : Nat → Int64} {cells slots : Nat} {Rel : zS → zS → Prop} (C : lC p s m meth c XC XM cJ ob b L xs) (O : zO_outranks Rel) (hi : i + 6 ≤ L) (hcs : cells ≤ 601024 ∧ slots ≤ 7293033) (hR : Rel σc σm) (K : ∀ (σc σm : zS), Rel σc σm → lG p e s m below meth c XC XM cJ ob b 1903 i [] σc σm g cells slots) : lG p e s m below meth c XC XM cJ ob b 922 i [] σc σm g cells slots := by
  obtain ⟨r, σc1, σm1, h1, h2, hR1⟩ := O σc σm (xs (i + 1)) (xs (i + 2)) hR
  refine l_aload C (k := 1) (ld_22 0 rfl) rfl rfl ?_
  refine l_arg C 1 929 (ld_22 1 rfl) (ld_22 2 rfl) (ld_22 3 rfl) (ld_22 4 rfl) (ld_22 5 rfl) (by decide) (by omega) rfl ?_
  refine l_arg C 2 935 (ld_22 6 rfl) (ld_22 7 rfl) (ld_22 8 rfl) (ld_22 9 rfl) (ld_22 10 rfl) (by decide) (by omega) rfl ?_
  refine l_callC (n := 938) (As := [.int (xs (i + 1)), .int (xs (i + 2))]) (o := (some (.int r), σc1)) C (ld_22 11 rfl) rfl zll_22 F_X10_outranks rfl (c_X10_outranks XC 40 (by omega) 0 (xs (i + 1)) (xs (i + 2)) σc r σc1 h1) rfl rfl (Nat.le_of_ble_eq_true rfl) hcs ?_
  refine l_aload C (k := 2) (ld_22 12 rfl) rfl rfl ?_
  refine l_arg C 1 945 (ld_22 13 rfl) (ld_22 14 rfl) (ld_22 15 rfl) (ld_22 16 rfl) (ld_22 17 rfl) (by decide) (by omega) rfl ?_
  refine l_arg C 2 951 (ld_22 18 rfl) (ld_22 19 rfl) (ld_22 20 rfl) (ld_22 21 rfl) (ld_22 22 rfl) (by decide) (by omega) rfl ?_
  refine l_callM (n := 954) (As := [.int (xs (i + 1)), .int (xs (i + 2))]) (o := (some (.int r), σm1)) C (ld_22 23 rfl) rfl zlm_22 F_X11_outranks rfl (c_X11_outranks XM 40 (by omega) 0 (xs (i + 1)) (xs (i + 2)) σm r σm1 h2) rfl rfl (Nat.le_of_ble_eq_true rfl) hcs ?_
  exact l_eqI C (ld_22 24 rfl) (by decide) (K σc1 σm1 hR1)
def ltt_23 : List (Nat × Instr × Nat) := [(959, .aload_n 1, 1), (960, .aload_n 0, 1), (961, .iload 4, 2), (963, .iconst 1, 1), (964, .iadd, 1), (965, .iaload, 1), (966, .invokevirtual 116, 3), (969, .aload_n 2, 1), (970, .aload_n 0, 1), (971, .iload 4, 2), (973, .iconst 1, 1), (974, .iadd, 1), (975, .iaload, 1), (976, .invokevirtual 119, 3), (979, .if_icmp .eq 924, 3), (982, .iconst 0, 1)]
theorem ld0_23 : ∀ q ∈ ltt_23, decode code q.1 = .ok q.2 := by decide +kernel
theorem ld_23 (i : Nat) {pc n : Nat} {g : Instr} (h : ltt_23[i]? = some (pc, g, n)) : decode code pc = .ok (g, n) := ld0_23 (pc, g, n) (List.mem_of_getElem? h)
def zO_ring (Rel : zS → zS → Prop) : Prop := ∀ (σc σm : zS) (a1 : Int32), Rel σc σm → ∃ (r : Int32) (σc1 σm1 : zS), f_X10_ring 0 a1 σc = some (r, σc1) ∧ f_X11_ring 0 a1 σm = some (r, σm1) ∧ Rel σc1 σm1
theorem zll_23 : Cond.methodLink R_law 116 M_X10_ring.1 ∈ zTT := zTT_in (i := 987) (by decide +kernel) rfl
theorem zlm_23 : Cond.methodLink R_law 119 M_X11_ring.1 ∈ zTT := zTT_in (i := 1798) (by decide +kernel) rfl
theorem lw_case_23 {p : Program} {e : Env} {s : State} {m : MethodId} {below : List Frame} {meth : Method} {c : Code} {XC XM : zX} {cJ : ClassId} {ob b L : Nat} {xs : Nat → Int32} {i : Nat} {σc σm : zS} {g : Nat → Int64} {cells slots : Nat} {Rel : zS → zS → Prop} (C : lC p s m meth c XC XM cJ ob b L xs) (O : zO_ring Rel) (hi : i + 6 ≤ L) (hcs : cells ≤ 601024 ∧ slots ≤ 7293033) (hR : Rel σc σm) (K : ∀ (σc σm : zS), Rel σc σm → lG p e s m below meth c XC XM cJ ob b 1903 i [] σc σm g cells slots) : lG p e s m below meth c XC XM cJ ob b 959 i [] σc σm g cells slots := by
  obtain ⟨r, σc1, σm1, h1, h2, hR1⟩ := O σc σm (xs (i + 1)) hR
  refine l_aload C (k := 1) (ld_23 0 rfl) rfl rfl ?_
  refine l_arg C 1 966 (ld_23 1 rfl) (ld_23 2 rfl) (ld_23 3 rfl) (ld_23 4 rfl) (ld_23 5 rfl) (by decide) (by omega) rfl ?_
  refine l_callC (n := 969) (As := [.int (xs (i + 1))]) (o := (some (.int r), σc1)) C (ld_23 6 rfl) rfl zll_23 F_X10_ring rfl (c_X10_ring XC 40 (by omega) 0 (xs (i + 1)) σc r σc1 h1) rfl rfl (Nat.le_of_ble_eq_true rfl) hcs ?_
  refine l_aload C (k := 2) (ld_23 7 rfl) rfl rfl ?_
  refine l_arg C 1 976 (ld_23 8 rfl) (ld_23 9 rfl) (ld_23 10 rfl) (ld_23 11 rfl) (ld_23 12 rfl) (by decide) (by omega) rfl ?_
  refine l_callM (n := 979) (As := [.int (xs (i + 1))]) (o := (some (.int r), σm1)) C (ld_23 13 rfl) rfl zlm_23 F_X11_ring rfl (c_X11_ring XM 40 (by omega) 0 (xs (i + 1)) σm r σm1 h2) rfl rfl (Nat.le_of_ble_eq_true rfl) hcs ?_
  exact l_eqI C (ld_23 14 rfl) (by decide) (K σc1 σm1 hR1)
def ltt_24 : List (Nat × Instr × Nat) := [(984, .aload_n 1, 1), (985, .aload_n 0, 1), (986, .iload 4, 2), (988, .iconst 1, 1), (989, .iadd, 1), (990, .iaload, 1), (991, .aload_n 0, 1), (992, .iload 4, 2), (994, .iconst 2, 1), (995, .iadd, 1), (996, .iaload, 1), (997, .invokevirtual 120, 3), (1000, .aload_n 2, 1), (1001, .aload_n 0, 1), (1002, .iload 4, 2), (1004, .iconst 1, 1), (1005, .iadd, 1), (1006, .iaload, 1), (1007, .aload_n 0, 1), (1008, .iload 4, 2), (1010, .iconst 2, 1), (1011, .iadd, 1), (1012, .iaload, 1), (1013, .invokevirtual 123, 3), (1016, .if_icmp .eq 887, 3), (1019, .iconst 0, 1)]
theorem ld0_24 : ∀ q ∈ ltt_24, decode code q.1 = .ok q.2 := by decide +kernel
theorem ld_24 (i : Nat) {pc n : Nat} {g : Instr} (h : ltt_24[i]? = some (pc, g, n)) : decode code pc = .ok (g, n) := ld0_24 (pc, g, n) (List.mem_of_getElem? h)
def zO_ringAt (Rel : zS → zS → Prop) : Prop := ∀ (σc σm : zS) (a1 : Int32) (a2 : Int32), Rel σc σm → ∃ (r : Int32) (σc1 σm1 : zS), f_X10_ringAt 0 a1 a2 σc = some (r, σc1) ∧ f_X11_ringAt 0 a1 a2 σm = some (r, σm1) ∧ Rel σc1 σm1
theorem zll_24 : Cond.methodLink R_law 120 M_X10_ringAt.1 ∈ zTT := zTT_in (i := 999) (by decide +kernel) rfl
theorem zlm_24 : Cond.methodLink R_law 123 M_X11_ringAt.1 ∈ zTT := zTT_in (i := 1811) (by decide +kernel) rfl
theorem lw_case_24 {p : Program} {e : Env} {s : State} {m : MethodId} {below : List Frame} {meth : Method} {c : Code} {XC XM : zX} {cJ : ClassId} {ob b L : Nat} {xs : Nat → Int32} {i : Nat} {σc σm : zS} {g : Nat → Int64} {cells slots : Nat} {Rel : zS → zS → Prop} (C : lC p s m meth c XC XM cJ ob b L xs) (O : zO_ringAt Rel) (hi : i + 6 ≤ L) (hcs : cells ≤ 601024 ∧ slots ≤ 7293033) (hR : Rel σc σm) (K : ∀ (σc σm : zS), Rel σc σm → lG p e s m below meth c XC XM cJ ob b 1903 i [] σc σm g cells slots) : lG p e s m below meth c XC XM cJ ob b 984 i [] σc σm g cells slots := by
  obtain ⟨r, σc1, σm1, h1, h2, hR1⟩ := O σc σm (xs (i + 1)) (xs (i + 2)) hR
  refine l_aload C (k := 1) (ld_24 0 rfl) rfl rfl ?_
  refine l_arg C 1 991 (ld_24 1 rfl) (ld_24 2 rfl) (ld_24 3 rfl) (ld_24 4 rfl) (ld_24 5 rfl) (by decide) (by omega) rfl ?_
  refine l_arg C 2 997 (ld_24 6 rfl) (ld_24 7 rfl) (ld_24 8 rfl) (ld_24 9 rfl) (ld_24 10 rfl) (by decide) (by omega) rfl ?_
  refine l_callC (n := 1000) (As := [.int (xs (i + 1)), .int (xs (i + 2))]) (o := (some (.int r), σc1)) C (ld_24 11 rfl) rfl zll_24 F_X10_ringAt rfl (c_X10_ringAt XC 40 (by omega) 0 (xs (i + 1)) (xs (i + 2)) σc r σc1 h1) rfl rfl (Nat.le_of_ble_eq_true rfl) hcs ?_
  refine l_aload C (k := 2) (ld_24 12 rfl) rfl rfl ?_
  refine l_arg C 1 1007 (ld_24 13 rfl) (ld_24 14 rfl) (ld_24 15 rfl) (ld_24 16 rfl) (ld_24 17 rfl) (by decide) (by omega) rfl ?_
  refine l_arg C 2 1013 (ld_24 18 rfl) (ld_24 19 rfl) (ld_24 20 rfl) (ld_24 21 rfl) (ld_24 22 rfl) (by decide) (by omega) rfl ?_
  refine l_callM (n := 1016) (As := [.int (xs (i + 1)), .int (xs (i + 2))]) (o := (some (.int r), σm1)) C (ld_24 23 rfl) rfl zlm_24 F_X11_ringAt rfl (c_X11_ringAt XM 40 (by omega) 0 (xs (i + 1)) (xs (i + 2)) σm r σm1 h2) rfl rfl (Nat.le_of_ble_eq_true rfl) hcs ?_
  exact l_eqI C (ld_24 24 rfl) (by decide) (K σc1 σm1 hR1)
def ltt_25 : List (Nat × Instr × Nat) := [(1021, .aload_n 1, 1), (1022, .invokevirtual 124, 3), (1025, .aload_n 2, 1), (1026, .invokevirtual 127, 3), (1029, .if_icmp .eq 874, 3), (1032, .iconst 0, 1)]
theorem ld0_25 : ∀ q ∈ ltt_25, decode code q.1 = .ok q.2 := by decide +kernel
theorem ld_25 (i : Nat) {pc n : Nat} {g : Instr} (h : ltt_25[i]? = some (pc, g, n)) : decode code pc = .ok (g, n) := ld0_25 (pc, g, n) (List.mem_of_getElem? h)
def zO_free (Rel : zS → zS → Prop) : Prop := ∀ (σc σm : zS), Rel σc σm → ∃ (r : Int32) (σc1 σm1 : zS), f_X10_free 0  σc = some (r, σc1) ∧ f_X11_free 0  σm = some (r, σm1) ∧ Rel σc1 σm1
theorem zll_25 : Cond.methodLink R_law 124 M_X10_free.1 ∈ zTT := zTT_in (i := 1004) (by decide +kernel) rfl
theorem zlm_25 : Cond.methodLink R_law 127 M_X11_free.1 ∈ zTT := zTT_in (i := 1815) (by decide +kernel) rfl
theorem lw_case_25 {p : Program} {e : Env} {s : State} {m : MethodId} {below : List Frame} {meth : Method} {c : Code} {XC XM : zX} {cJ : ClassId} {ob b L : Nat} {xs : Nat → Int32} {i : Nat} {σc σm : zS} {g : Nat → Int64} {cells slots : Nat} {Rel : zS → zS → Prop} (C : lC p s m meth c XC XM cJ ob b L xs) (O : zO_free Rel) (hi : i + 6 ≤ L) (hcs : cells ≤ 601024 ∧ slots ≤ 7293033) (hR : Rel σc σm) (K : ∀ (σc σm : zS), Rel σc σm → lG p e s m below meth c XC XM cJ ob b 1903 i [] σc σm g cells slots) : lG p e s m below meth c XC XM cJ ob b 1021 i [] σc σm g cells slots := by
  obtain ⟨r, σc1, σm1, h1, h2, hR1⟩ := O σc σm  hR
  refine l_aload C (k := 1) (ld_25 0 rfl) rfl rfl ?_
  refine l_callC (n := 1025) (As := []) (o := (some (.int r), σc1)) C (ld_25 1 rfl) rfl zll_25 F_X10_free rfl (c_X10_free XC 40 (by omega) 0  σc r σc1 h1) rfl rfl (Nat.le_of_ble_eq_true rfl) hcs ?_
  refine l_aload C (k := 2) (ld_25 2 rfl) rfl rfl ?_
  refine l_callM (n := 1029) (As := []) (o := (some (.int r), σm1)) C (ld_25 3 rfl) rfl zlm_25 F_X11_free rfl (c_X11_free XM 40 (by omega) 0  σm r σm1 h2) rfl rfl (Nat.le_of_ble_eq_true rfl) hcs ?_
  exact l_eqI C (ld_25 4 rfl) (by decide) (K σc1 σm1 hR1)
def ltt_26 : List (Nat × Instr × Nat) := [(1034, .aload_n 1, 1), (1035, .invokevirtual 128, 3), (1038, .aload_n 2, 1), (1039, .invokevirtual 131, 3), (1042, .if_icmp .eq 861, 3), (1045, .iconst 0, 1)]
theorem ld0_26 : ∀ q ∈ ltt_26, decode code q.1 = .ok q.2 := by decide +kernel
theorem ld_26 (i : Nat) {pc n : Nat} {g : Instr} (h : ltt_26[i]? = some (pc, g, n)) : decode code pc = .ok (g, n) := ld0_26 (pc, g, n) (List.mem_of_getElem? h)
def zO_top (Rel : zS → zS → Prop) : Prop := ∀ (σc σm : zS), Rel σc σm → ∃ (r : Int32) (σc1 σm1 : zS), f_X10_top 0  σc = some (r, σc1) ∧ f_X11_top 0  σm = some (r, σm1) ∧ Rel σc1 σm1
theorem zll_26 : Cond.methodLink R_law 128 M_X10_top.1 ∈ zTT := zTT_in (i := 1013) (by decide +kernel) rfl
theorem zlm_26 : Cond.methodLink R_law 131 M_X11_top.1 ∈ zTT := zTT_in (i := 1823) (by decide +kernel) rfl
theorem lw_case_26 {p : Program} {e : Env} {s : State} {m : MethodId} {below : List Frame} {meth : Method} {c : Code} {XC XM : zX} {cJ : ClassId} {ob b L : Nat} {xs : Nat → Int32} {i : Nat} {σc σm : zS} {g : Nat → Int64} {cells slots : Nat} {Rel : zS → zS → Prop} (C : lC p s m meth c XC XM cJ ob b L xs) (O : zO_top Rel) (hi : i + 6 ≤ L) (hcs : cells ≤ 601024 ∧ slots ≤ 7293033) (hR : Rel σc σm) (K : ∀ (σc σm : zS), Rel σc σm → lG p e s m below meth c XC XM cJ ob b 1903 i [] σc σm g cells slots) : lG p e s m below meth c XC XM cJ ob b 1034 i [] σc σm g cells slots := by
  obtain ⟨r, σc1, σm1, h1, h2, hR1⟩ := O σc σm  hR
  refine l_aload C (k := 1) (ld_26 0 rfl) rfl rfl ?_
  refine l_callC (n := 1038) (As := []) (o := (some (.int r), σc1)) C (ld_26 1 rfl) rfl zll_26 F_X10_top rfl (c_X10_top XC 40 (by omega) 0  σc r σc1 h1) rfl rfl (Nat.le_of_ble_eq_true rfl) hcs ?_
  refine l_aload C (k := 2) (ld_26 2 rfl) rfl rfl ?_
  refine l_callM (n := 1042) (As := []) (o := (some (.int r), σm1)) C (ld_26 3 rfl) rfl zlm_26 F_X11_top rfl (c_X11_top XM 40 (by omega) 0  σm r σm1 h2) rfl rfl (Nat.le_of_ble_eq_true rfl) hcs ?_
  exact l_eqI C (ld_26 4 rfl) (by decide) (K σc1 σm1 hR1)
def ltt_27 : List (Nat × Instr × Nat) := [(1047, .aload_n 1, 1), (1048, .invokevirtual 132, 3), (1051, .aload_n 2, 1), (1052, .invokevirtual 135, 3), (1055, .if_icmp .eq 848, 3), (1058, .iconst 0, 1)]
theorem ld0_27 : ∀ q ∈ ltt_27, decode code q.1 = .ok q.2 := by decide +kernel
theorem ld_27 (i : Nat) {pc n : Nat} {g : Instr} (h : ltt_27[i]? = some (pc, g, n)) : decode code pc = .ok (g, n) := ld0_27 (pc, g, n) (List.mem_of_getElem? h)
def zO_taken (Rel : zS → zS → Prop) : Prop := ∀ (σc σm : zS), Rel σc σm → ∃ (r : Int32) (σc1 σm1 : zS), f_X10_taken 0  σc = some (r, σc1) ∧ f_X11_taken 0  σm = some (r, σm1) ∧ Rel σc1 σm1
theorem zll_27 : Cond.methodLink R_law 132 M_X10_taken.1 ∈ zTT := zTT_in (i := 1017) (by decide +kernel) rfl
theorem zlm_27 : Cond.methodLink R_law 135 M_X11_taken.1 ∈ zTT := zTT_in (i := 1827) (by decide +kernel) rfl
theorem lw_case_27 {p : Program} {e : Env} {s : State} {m : MethodId} {below : List Frame} {meth : Method} {c : Code} {XC XM : zX} {cJ : ClassId} {ob b L : Nat} {xs : Nat → Int32} {i : Nat} {σc σm : zS} {g : Nat → Int64} {cells slots : Nat} {Rel : zS → zS → Prop} (C : lC p s m meth c XC XM cJ ob b L xs) (O : zO_taken Rel) (hi : i + 6 ≤ L) (hcs : cells ≤ 601024 ∧ slots ≤ 7293033) (hR : Rel σc σm) (K : ∀ (σc σm : zS), Rel σc σm → lG p e s m below meth c XC XM cJ ob b 1903 i [] σc σm g cells slots) : lG p e s m below meth c XC XM cJ ob b 1047 i [] σc σm g cells slots := by
  obtain ⟨r, σc1, σm1, h1, h2, hR1⟩ := O σc σm  hR
  refine l_aload C (k := 1) (ld_27 0 rfl) rfl rfl ?_
  refine l_callC (n := 1051) (As := []) (o := (some (.int r), σc1)) C (ld_27 1 rfl) rfl zll_27 F_X10_taken rfl (c_X10_taken XC 40 (by omega) 0  σc r σc1 h1) rfl rfl (Nat.le_of_ble_eq_true rfl) hcs ?_
  refine l_aload C (k := 2) (ld_27 2 rfl) rfl rfl ?_
  refine l_callM (n := 1055) (As := []) (o := (some (.int r), σm1)) C (ld_27 3 rfl) rfl zlm_27 F_X11_taken rfl (c_X11_taken XM 40 (by omega) 0  σm r σm1 h2) rfl rfl (Nat.le_of_ble_eq_true rfl) hcs ?_
  exact l_eqI C (ld_27 4 rfl) (by decide) (K σc1 σm1 hR1)
def ltt_28 : List (Nat × Instr × Nat) := [(1060, .aload_n 1, 1), (1061, .invokevirtual 136, 3), (1064, .aload_n 2, 1), (1065, .invokevirtual 139, 3), (1068, .if_icmp .eq 835, 3), (1071, .iconst 0, 1)]
theorem ld0_28 : ∀ q ∈ ltt_28, decode code q.1 = .ok q.2 := by decide +kernel
theorem ld_28 (i : Nat) {pc n : Nat} {g : Instr} (h : ltt_28[i]? = some (pc, g, n)) : decode code pc = .ok (g, n) := ld0_28 (pc, g, n) (List.mem_of_getElem? h)
def zO_paid (Rel : zS → zS → Prop) : Prop := ∀ (σc σm : zS), Rel σc σm → ∃ (r : Int32) (σc1 σm1 : zS), f_X10_paid 0  σc = some (r, σc1) ∧ f_X11_paid 0  σm = some (r, σm1) ∧ Rel σc1 σm1
theorem zll_28 : Cond.methodLink R_law 136 M_X10_paid.1 ∈ zTT := zTT_in (i := 1041) (by decide +kernel) rfl
theorem zlm_28 : Cond.methodLink R_law 139 M_X11_paid.1 ∈ zTT := zTT_in (i := 1843) (by decide +kernel) rfl
theorem lw_case_28 {p : Program} {e : Env} {s : State} {m : MethodId} {below : List Frame} {meth : Method} {c : Code} {XC XM : zX} {cJ : ClassId} {ob b L : Nat} {xs : Nat → Int32} {i : Nat} {σc σm : zS} {g : Nat → Int64} {cells slots : Nat} {Rel : zS → zS → Prop} (C : lC p s m meth c XC XM cJ ob b L xs) (O : zO_paid Rel) (hi : i + 6 ≤ L) (hcs : cells ≤ 601024 ∧ slots ≤ 7293033) (hR : Rel σc σm) (K : ∀ (σc σm : zS), Rel σc σm → lG p e s m below meth c XC XM cJ ob b 1903 i [] σc σm g cells slots) : lG p e s m below meth c XC XM cJ ob b 1060 i [] σc σm g cells slots := by
  obtain ⟨r, σc1, σm1, h1, h2, hR1⟩ := O σc σm  hR
  refine l_aload C (k := 1) (ld_28 0 rfl) rfl rfl ?_
  refine l_callC (n := 1064) (As := []) (o := (some (.int r), σc1)) C (ld_28 1 rfl) rfl zll_28 F_X10_paid rfl (c_X10_paid XC 40 (by omega) 0  σc r σc1 h1) rfl rfl (Nat.le_of_ble_eq_true rfl) hcs ?_
  refine l_aload C (k := 2) (ld_28 2 rfl) rfl rfl ?_
  refine l_callM (n := 1068) (As := []) (o := (some (.int r), σm1)) C (ld_28 3 rfl) rfl zlm_28 F_X11_paid rfl (c_X11_paid XM 40 (by omega) 0  σm r σm1 h2) rfl rfl (Nat.le_of_ble_eq_true rfl) hcs ?_
  exact l_eqI C (ld_28 4 rfl) (by decide) (K σc1 σm1 hR1)
def ltt_29 : List (Nat × Instr × Nat) := [(1073, .aload_n 1, 1), (1074, .aload_n 0, 1), (1075, .iload 4, 2), (1077, .iconst 1, 1), (1078, .iadd, 1), (1079, .iaload, 1), (1080, .invokevirtual 140, 3), (1083, .aload_n 2, 1), (1084, .aload_n 0, 1), (1085, .iload 4, 2), (1087, .iconst 1, 1), (1088, .iadd, 1), (1089, .iaload, 1), (1090, .invokevirtual 143, 3), (1093, .if_icmp .eq 810, 3), (1096, .iconst 0, 1)]
theorem ld0_29 : ∀ q ∈ ltt_29, decode code q.1 = .ok q.2 := by decide +kernel
theorem ld_29 (i : Nat) {pc n : Nat} {g : Instr} (h : ltt_29[i]? = some (pc, g, n)) : decode code pc = .ok (g, n) := ld0_29 (pc, g, n) (List.mem_of_getElem? h)
def zO_worthOf (Rel : zS → zS → Prop) : Prop := ∀ (σc σm : zS) (a1 : Int32), Rel σc σm → ∃ (r : Int32) (σc1 σm1 : zS), f_X10_worthOf 0 a1 σc = some (r, σc1) ∧ f_X11_worthOf 0 a1 σm = some (r, σm1) ∧ Rel σc1 σm1
theorem zll_29 : Cond.methodLink R_law 140 M_X10_worthOf.1 ∈ zTT := zTT_in (i := 1045) (by decide +kernel) rfl
theorem zlm_29 : Cond.methodLink R_law 143 M_X11_worthOf.1 ∈ zTT := zTT_in (i := 1847) (by decide +kernel) rfl
theorem lw_case_29 {p : Program} {e : Env} {s : State} {m : MethodId} {below : List Frame} {meth : Method} {c : Code} {XC XM : zX} {cJ : ClassId} {ob b L : Nat} {xs : Nat → Int32} {i : Nat} {σc σm : zS} {g : Nat → Int64} {cells slots : Nat} {Rel : zS → zS → Prop} (C : lC p s m meth c XC XM cJ ob b L xs) (O : zO_worthOf Rel) (hi : i + 6 ≤ L) (hcs : cells ≤ 601024 ∧ slots ≤ 7293033) (hR : Rel σc σm) (K : ∀ (σc σm : zS), Rel σc σm → lG p e s m below meth c XC XM cJ ob b 1903 i [] σc σm g cells slots) : lG p e s m below meth c XC XM cJ ob b 1073 i [] σc σm g cells slots := by
  obtain ⟨r, σc1, σm1, h1, h2, hR1⟩ := O σc σm (xs (i + 1)) hR
  refine l_aload C (k := 1) (ld_29 0 rfl) rfl rfl ?_
  refine l_arg C 1 1080 (ld_29 1 rfl) (ld_29 2 rfl) (ld_29 3 rfl) (ld_29 4 rfl) (ld_29 5 rfl) (by decide) (by omega) rfl ?_
  refine l_callC (n := 1083) (As := [.int (xs (i + 1))]) (o := (some (.int r), σc1)) C (ld_29 6 rfl) rfl zll_29 F_X10_worthOf rfl (c_X10_worthOf XC 40 (by omega) 0 (xs (i + 1)) σc r σc1 h1) rfl rfl (Nat.le_of_ble_eq_true rfl) hcs ?_
  refine l_aload C (k := 2) (ld_29 7 rfl) rfl rfl ?_
  refine l_arg C 1 1090 (ld_29 8 rfl) (ld_29 9 rfl) (ld_29 10 rfl) (ld_29 11 rfl) (ld_29 12 rfl) (by decide) (by omega) rfl ?_
  refine l_callM (n := 1093) (As := [.int (xs (i + 1))]) (o := (some (.int r), σm1)) C (ld_29 13 rfl) rfl zlm_29 F_X11_worthOf rfl (c_X11_worthOf XM 40 (by omega) 0 (xs (i + 1)) σm r σm1 h2) rfl rfl (Nat.le_of_ble_eq_true rfl) hcs ?_
  exact l_eqI C (ld_29 14 rfl) (by decide) (K σc1 σm1 hR1)
def ltt_30 : List (Nat × Instr × Nat) := [(1098, .aload_n 1, 1), (1099, .invokevirtual 144, 3), (1102, .aload_n 2, 1), (1103, .invokevirtual 147, 3), (1106, .if_icmp .eq 797, 3), (1109, .iconst 0, 1)]
theorem ld0_30 : ∀ q ∈ ltt_30, decode code q.1 = .ok q.2 := by decide +kernel
theorem ld_30 (i : Nat) {pc n : Nat} {g : Instr} (h : ltt_30[i]? = some (pc, g, n)) : decode code pc = .ok (g, n) := ld0_30 (pc, g, n) (List.mem_of_getElem? h)
def zO_fits (Rel : zS → zS → Prop) : Prop := ∀ (σc σm : zS), Rel σc σm → ∃ (r : Int32) (σc1 σm1 : zS), f_X10_fits 0  σc = some (r, σc1) ∧ f_X11_fits 0  σm = some (r, σm1) ∧ Rel σc1 σm1
theorem zll_30 : Cond.methodLink R_law 144 M_X10_fits.1 ∈ zTT := zTT_in (i := 1049) (by decide +kernel) rfl
theorem zlm_30 : Cond.methodLink R_law 147 M_X11_fits.1 ∈ zTT := zTT_in (i := 1851) (by decide +kernel) rfl
theorem lw_case_30 {p : Program} {e : Env} {s : State} {m : MethodId} {below : List Frame} {meth : Method} {c : Code} {XC XM : zX} {cJ : ClassId} {ob b L : Nat} {xs : Nat → Int32} {i : Nat} {σc σm : zS} {g : Nat → Int64} {cells slots : Nat} {Rel : zS → zS → Prop} (C : lC p s m meth c XC XM cJ ob b L xs) (O : zO_fits Rel) (hi : i + 6 ≤ L) (hcs : cells ≤ 601024 ∧ slots ≤ 7293033) (hR : Rel σc σm) (K : ∀ (σc σm : zS), Rel σc σm → lG p e s m below meth c XC XM cJ ob b 1903 i [] σc σm g cells slots) : lG p e s m below meth c XC XM cJ ob b 1098 i [] σc σm g cells slots := by
  obtain ⟨r, σc1, σm1, h1, h2, hR1⟩ := O σc σm  hR
  refine l_aload C (k := 1) (ld_30 0 rfl) rfl rfl ?_
  refine l_callC (n := 1102) (As := []) (o := (some (.int r), σc1)) C (ld_30 1 rfl) rfl zll_30 F_X10_fits rfl (c_X10_fits XC 40 (by omega) 0  σc r σc1 h1) rfl rfl (Nat.le_of_ble_eq_true rfl) hcs ?_
  refine l_aload C (k := 2) (ld_30 2 rfl) rfl rfl ?_
  refine l_callM (n := 1106) (As := []) (o := (some (.int r), σm1)) C (ld_30 3 rfl) rfl zlm_30 F_X11_fits rfl (c_X11_fits XM 40 (by omega) 0  σm r σm1 h2) rfl rfl (Nat.le_of_ble_eq_true rfl) hcs ?_
  exact l_eqI C (ld_30 4 rfl) (by decide) (K σc1 σm1 hR1)
def ltt_31 : List (Nat × Instr × Nat) := [(1111, .aload_n 1, 1), (1112, .aload_n 0, 1), (1113, .iload 4, 2), (1115, .iconst 1, 1), (1116, .iadd, 1), (1117, .iaload, 1), (1118, .aload_n 0, 1), (1119, .iload 4, 2), (1121, .iconst 2, 1), (1122, .iadd, 1), (1123, .iaload, 1), (1124, .invokevirtual 148, 3), (1127, .aload_n 2, 1), (1128, .aload_n 0, 1), (1129, .iload 4, 2), (1131, .iconst 1, 1), (1132, .iadd, 1), (1133, .iaload, 1), (1134, .aload_n 0, 1), (1135, .iload 4, 2), (1137, .iconst 2, 1), (1138, .iadd, 1), (1139, .iaload, 1), (1140, .invokevirtual 151, 3), (1143, .if_icmp .eq 760, 3), (1146, .iconst 0, 1)]
theorem ld0_31 : ∀ q ∈ ltt_31, decode code q.1 = .ok q.2 := by decide +kernel
theorem ld_31 (i : Nat) {pc n : Nat} {g : Instr} (h : ltt_31[i]? = some (pc, g, n)) : decode code pc = .ok (g, n) := ld0_31 (pc, g, n) (List.mem_of_getElem? h)
def zO_fitAt (Rel : zS → zS → Prop) : Prop := ∀ (σc σm : zS) (a1 : Int32) (a2 : Int32), Rel σc σm → ∃ (r : Int32) (σc1 σm1 : zS), f_X10_fitAt 0 a1 a2 σc = some (r, σc1) ∧ f_X11_fitAt 0 a1 a2 σm = some (r, σm1) ∧ Rel σc1 σm1
theorem zll_31 : Cond.methodLink R_law 148 M_X10_fitAt.1 ∈ zTT := zTT_in (i := 1084) (by decide +kernel) rfl
theorem zlm_31 : Cond.methodLink R_law 151 M_X11_fitAt.1 ∈ zTT := zTT_in (i := 1879) (by decide +kernel) rfl
theorem lw_case_31 {p : Program} {e : Env} {s : State} {m : MethodId} {below : List Frame} {meth : Method} {c : Code} {XC XM : zX} {cJ : ClassId} {ob b L : Nat} {xs : Nat → Int32} {i : Nat} {σc σm : zS} {g : Nat → Int64} {cells slots : Nat} {Rel : zS → zS → Prop} (C : lC p s m meth c XC XM cJ ob b L xs) (O : zO_fitAt Rel) (hi : i + 6 ≤ L) (hcs : cells ≤ 601024 ∧ slots ≤ 7293033) (hR : Rel σc σm) (K : ∀ (σc σm : zS), Rel σc σm → lG p e s m below meth c XC XM cJ ob b 1903 i [] σc σm g cells slots) : lG p e s m below meth c XC XM cJ ob b 1111 i [] σc σm g cells slots := by
  obtain ⟨r, σc1, σm1, h1, h2, hR1⟩ := O σc σm (xs (i + 1)) (xs (i + 2)) hR
  refine l_aload C (k := 1) (ld_31 0 rfl) rfl rfl ?_
  refine l_arg C 1 1118 (ld_31 1 rfl) (ld_31 2 rfl) (ld_31 3 rfl) (ld_31 4 rfl) (ld_31 5 rfl) (by decide) (by omega) rfl ?_
  refine l_arg C 2 1124 (ld_31 6 rfl) (ld_31 7 rfl) (ld_31 8 rfl) (ld_31 9 rfl) (ld_31 10 rfl) (by decide) (by omega) rfl ?_
  refine l_callC (n := 1127) (As := [.int (xs (i + 1)), .int (xs (i + 2))]) (o := (some (.int r), σc1)) C (ld_31 11 rfl) rfl zll_31 F_X10_fitAt rfl (c_X10_fitAt XC 40 (by omega) 0 (xs (i + 1)) (xs (i + 2)) σc r σc1 h1) rfl rfl (Nat.le_of_ble_eq_true rfl) hcs ?_
  refine l_aload C (k := 2) (ld_31 12 rfl) rfl rfl ?_
  refine l_arg C 1 1134 (ld_31 13 rfl) (ld_31 14 rfl) (ld_31 15 rfl) (ld_31 16 rfl) (ld_31 17 rfl) (by decide) (by omega) rfl ?_
  refine l_arg C 2 1140 (ld_31 18 rfl) (ld_31 19 rfl) (ld_31 20 rfl) (ld_31 21 rfl) (ld_31 22 rfl) (by decide) (by omega) rfl ?_
  refine l_callM (n := 1143) (As := [.int (xs (i + 1)), .int (xs (i + 2))]) (o := (some (.int r), σm1)) C (ld_31 23 rfl) rfl zlm_31 F_X11_fitAt rfl (c_X11_fitAt XM 40 (by omega) 0 (xs (i + 1)) (xs (i + 2)) σm r σm1 h2) rfl rfl (Nat.le_of_ble_eq_true rfl) hcs ?_
  exact l_eqI C (ld_31 24 rfl) (by decide) (K σc1 σm1 hR1)
def ltt_32 : List (Nat × Instr × Nat) := [(1148, .aload_n 1, 1), (1149, .aload_n 0, 1), (1150, .iload 4, 2), (1152, .iconst 1, 1), (1153, .iadd, 1), (1154, .iaload, 1), (1155, .aload_n 0, 1), (1156, .iload 4, 2), (1158, .iconst 2, 1), (1159, .iadd, 1), (1160, .iaload, 1), (1161, .invokevirtual 152, 3), (1164, .aload_n 2, 1), (1165, .aload_n 0, 1), (1166, .iload 4, 2), (1168, .iconst 1, 1), (1169, .iadd, 1), (1170, .iaload, 1), (1171, .aload_n 0, 1), (1172, .iload 4, 2), (1174, .iconst 2, 1), (1175, .iadd, 1), (1176, .iaload, 1), (1177, .invokevirtual 155, 3), (1180, .if_icmp .eq 723, 3), (1183, .iconst 0, 1)]
theorem ld0_32 : ∀ q ∈ ltt_32, decode code q.1 = .ok q.2 := by decide +kernel
theorem ld_32 (i : Nat) {pc n : Nat} {g : Instr} (h : ltt_32[i]? = some (pc, g, n)) : decode code pc = .ok (g, n) := ld0_32 (pc, g, n) (List.mem_of_getElem? h)
def zO_says (Rel : zS → zS → Prop) : Prop := ∀ (σc σm : zS) (a1 : Int32) (a2 : Int32), Rel σc σm → ∃ (r : Int32) (σc1 σm1 : zS), f_X10_says 0 a1 a2 σc = some (r, σc1) ∧ f_X11_says 0 a1 a2 σm = some (r, σm1) ∧ Rel σc1 σm1
theorem zll_32 : Cond.methodLink R_law 152 M_X10_says.1 ∈ zTT := zTT_in (i := 1096) (by decide +kernel) rfl
theorem zlm_32 : Cond.methodLink R_law 155 M_X11_says.1 ∈ zTT := zTT_in (i := 1887) (by decide +kernel) rfl
theorem lw_case_32 {p : Program} {e : Env} {s : State} {m : MethodId} {below : List Frame} {meth : Method} {c : Code} {XC XM : zX} {cJ : ClassId} {ob b L : Nat} {xs : Nat → Int32} {i : Nat} {σc σm : zS} {g : Nat → Int64} {cells slots : Nat} {Rel : zS → zS → Prop} (C : lC p s m meth c XC XM cJ ob b L xs) (O : zO_says Rel) (hi : i + 6 ≤ L) (hcs : cells ≤ 601024 ∧ slots ≤ 7293033) (hR : Rel σc σm) (K : ∀ (σc σm : zS), Rel σc σm → lG p e s m below meth c XC XM cJ ob b 1903 i [] σc σm g cells slots) : lG p e s m below meth c XC XM cJ ob b 1148 i [] σc σm g cells slots := by
  obtain ⟨r, σc1, σm1, h1, h2, hR1⟩ := O σc σm (xs (i + 1)) (xs (i + 2)) hR
  refine l_aload C (k := 1) (ld_32 0 rfl) rfl rfl ?_
  refine l_arg C 1 1155 (ld_32 1 rfl) (ld_32 2 rfl) (ld_32 3 rfl) (ld_32 4 rfl) (ld_32 5 rfl) (by decide) (by omega) rfl ?_
  refine l_arg C 2 1161 (ld_32 6 rfl) (ld_32 7 rfl) (ld_32 8 rfl) (ld_32 9 rfl) (ld_32 10 rfl) (by decide) (by omega) rfl ?_
  refine l_callC (n := 1164) (As := [.int (xs (i + 1)), .int (xs (i + 2))]) (o := (some (.int r), σc1)) C (ld_32 11 rfl) rfl zll_32 F_X10_says rfl (c_X10_says XC 40 (by omega) 0 (xs (i + 1)) (xs (i + 2)) σc r σc1 h1) rfl rfl (Nat.le_of_ble_eq_true rfl) hcs ?_
  refine l_aload C (k := 2) (ld_32 12 rfl) rfl rfl ?_
  refine l_arg C 1 1171 (ld_32 13 rfl) (ld_32 14 rfl) (ld_32 15 rfl) (ld_32 16 rfl) (ld_32 17 rfl) (by decide) (by omega) rfl ?_
  refine l_arg C 2 1177 (ld_32 18 rfl) (ld_32 19 rfl) (ld_32 20 rfl) (ld_32 21 rfl) (ld_32 22 rfl) (by decide) (by omega) rfl ?_
  refine l_callM (n := 1180) (As := [.int (xs (i + 1)), .int (xs (i + 2))]) (o := (some (.int r), σm1)) C (ld_32 23 rfl) rfl zlm_32 F_X11_says rfl (c_X11_says XM 40 (by omega) 0 (xs (i + 1)) (xs (i + 2)) σm r σm1 h2) rfl rfl (Nat.le_of_ble_eq_true rfl) hcs ?_
  exact l_eqI C (ld_32 24 rfl) (by decide) (K σc1 σm1 hR1)
def ltt_33 : List (Nat × Instr × Nat) := [(1185, .aload_n 1, 1), (1186, .invokevirtual 156, 3), (1189, .aload_n 2, 1), (1190, .invokevirtual 159, 3), (1193, .if_icmp .eq 710, 3), (1196, .iconst 0, 1)]
theorem ld0_33 : ∀ q ∈ ltt_33, decode code q.1 = .ok q.2 := by decide +kernel
theorem ld_33 (i : Nat) {pc n : Nat} {g : Instr} (h : ltt_33[i]? = some (pc, g, n)) : decode code pc = .ok (g, n) := ld0_33 (pc, g, n) (List.mem_of_getElem? h)
def zO_ask (Rel : zS → zS → Prop) : Prop := ∀ (σc σm : zS), Rel σc σm → ∃ (r : Int32) (σc1 σm1 : zS), f_X10_ask 0  σc = some (r, σc1) ∧ f_X11_ask 0  σm = some (r, σm1) ∧ Rel σc1 σm1
theorem zll_33 : Cond.methodLink R_law 156 M_X10_ask.1 ∈ zTT := zTT_in (i := 1100) (by decide +kernel) rfl
theorem zlm_33 : Cond.methodLink R_law 159 M_X11_ask.1 ∈ zTT := zTT_in (i := 1891) (by decide +kernel) rfl
theorem lw_case_33 {p : Program} {e : Env} {s : State} {m : MethodId} {below : List Frame} {meth : Method} {c : Code} {XC XM : zX} {cJ : ClassId} {ob b L : Nat} {xs : Nat → Int32} {i : Nat} {σc σm : zS} {g : Nat → Int64} {cells slots : Nat} {Rel : zS → zS → Prop} (C : lC p s m meth c XC XM cJ ob b L xs) (O : zO_ask Rel) (hi : i + 6 ≤ L) (hcs : cells ≤ 601024 ∧ slots ≤ 7293033) (hR : Rel σc σm) (K : ∀ (σc σm : zS), Rel σc σm → lG p e s m below meth c XC XM cJ ob b 1903 i [] σc σm g cells slots) : lG p e s m below meth c XC XM cJ ob b 1185 i [] σc σm g cells slots := by
  obtain ⟨r, σc1, σm1, h1, h2, hR1⟩ := O σc σm  hR
  refine l_aload C (k := 1) (ld_33 0 rfl) rfl rfl ?_
  refine l_callC (n := 1189) (As := []) (o := (some (.int r), σc1)) C (ld_33 1 rfl) rfl zll_33 F_X10_ask rfl (c_X10_ask XC 40 (by omega) 0  σc r σc1 h1) rfl rfl (Nat.le_of_ble_eq_true rfl) hcs ?_
  refine l_aload C (k := 2) (ld_33 2 rfl) rfl rfl ?_
  refine l_callM (n := 1193) (As := []) (o := (some (.int r), σm1)) C (ld_33 3 rfl) rfl zlm_33 F_X11_ask rfl (c_X11_ask XM 40 (by omega) 0  σm r σm1 h2) rfl rfl (Nat.le_of_ble_eq_true rfl) hcs ?_
  exact l_eqI C (ld_33 4 rfl) (by decide) (K σc1 σm1 hR1)
def ltt_34 : List (Nat × Instr × Nat) := [(1198, .aload_n 1, 1), (1199, .invokevirtual 160, 3), (1202, .aload_n 2, 1), (1203, .invokevirtual 163, 3), (1206, .if_icmp .eq 697, 3), (1209, .iconst 0, 1)]
theorem ld0_34 : ∀ q ∈ ltt_34, decode code q.1 = .ok q.2 := by decide +kernel
theorem ld_34 (i : Nat) {pc n : Nat} {g : Instr} (h : ltt_34[i]? = some (pc, g, n)) : decode code pc = .ok (g, n) := ld0_34 (pc, g, n) (List.mem_of_getElem? h)
def zO_askLeaves (Rel : zS → zS → Prop) : Prop := ∀ (σc σm : zS), Rel σc σm → ∃ (r : Int32) (σc1 σm1 : zS), f_X10_askLeaves 0  σc = some (r, σc1) ∧ f_X11_askLeaves 0  σm = some (r, σm1) ∧ Rel σc1 σm1
theorem zll_34 : Cond.methodLink R_law 160 M_X10_askLeaves.1 ∈ zTT := zTT_in (i := 1115) (by decide +kernel) rfl
theorem zlm_34 : Cond.methodLink R_law 163 M_X11_askLeaves.1 ∈ zTT := zTT_in (i := 1903) (by decide +kernel) rfl
theorem lw_case_34 {p : Program} {e : Env} {s : State} {m : MethodId} {below : List Frame} {meth : Method} {c : Code} {XC XM : zX} {cJ : ClassId} {ob b L : Nat} {xs : Nat → Int32} {i : Nat} {σc σm : zS} {g : Nat → Int64} {cells slots : Nat} {Rel : zS → zS → Prop} (C : lC p s m meth c XC XM cJ ob b L xs) (O : zO_askLeaves Rel) (hi : i + 6 ≤ L) (hcs : cells ≤ 601024 ∧ slots ≤ 7293033) (hR : Rel σc σm) (K : ∀ (σc σm : zS), Rel σc σm → lG p e s m below meth c XC XM cJ ob b 1903 i [] σc σm g cells slots) : lG p e s m below meth c XC XM cJ ob b 1198 i [] σc σm g cells slots := by
  obtain ⟨r, σc1, σm1, h1, h2, hR1⟩ := O σc σm  hR
  refine l_aload C (k := 1) (ld_34 0 rfl) rfl rfl ?_
  refine l_callC (n := 1202) (As := []) (o := (some (.int r), σc1)) C (ld_34 1 rfl) rfl zll_34 F_X10_askLeaves rfl (c_X10_askLeaves XC 40 (by omega) 0  σc r σc1 h1) rfl rfl (Nat.le_of_ble_eq_true rfl) hcs ?_
  refine l_aload C (k := 2) (ld_34 2 rfl) rfl rfl ?_
  refine l_callM (n := 1206) (As := []) (o := (some (.int r), σm1)) C (ld_34 3 rfl) rfl zlm_34 F_X11_askLeaves rfl (c_X11_askLeaves XM 40 (by omega) 0  σm r σm1 h2) rfl rfl (Nat.le_of_ble_eq_true rfl) hcs ?_
  exact l_eqI C (ld_34 4 rfl) (by decide) (K σc1 σm1 hR1)
def ltt_35 : List (Nat × Instr × Nat) := [(1211, .aload_n 1, 1), (1212, .invokevirtual 164, 3), (1215, .aload_n 2, 1), (1216, .invokevirtual 167, 3), (1219, .if_icmp .eq 684, 3), (1222, .iconst 0, 1)]
theorem ld0_35 : ∀ q ∈ ltt_35, decode code q.1 = .ok q.2 := by decide +kernel
theorem ld_35 (i : Nat) {pc n : Nat} {g : Instr} (h : ltt_35[i]? = some (pc, g, n)) : decode code pc = .ok (g, n) := ld0_35 (pc, g, n) (List.mem_of_getElem? h)
def zO_judge (Rel : zS → zS → Prop) : Prop := ∀ (σc σm : zS), Rel σc σm → ∃ (r : Int32) (σc1 σm1 : zS), f_X10_judge 0  σc = some (r, σc1) ∧ f_X11_judge 0  σm = some (r, σm1) ∧ Rel σc1 σm1
theorem zll_35 : Cond.methodLink R_law 164 M_X10_judge.1 ∈ zTT := zTT_in (i := 1120) (by decide +kernel) rfl
theorem zlm_35 : Cond.methodLink R_law 167 M_X11_judge.1 ∈ zTT := zTT_in (i := 1907) (by decide +kernel) rfl
theorem lw_case_35 {p : Program} {e : Env} {s : State} {m : MethodId} {below : List Frame} {meth : Method} {c : Code} {XC XM : zX} {cJ : ClassId} {ob b L : Nat} {xs : Nat → Int32} {i : Nat} {σc σm : zS} {g : Nat → Int64} {cells slots : Nat} {Rel : zS → zS → Prop} (C : lC p s m meth c XC XM cJ ob b L xs) (O : zO_judge Rel) (hi : i + 6 ≤ L) (hcs : cells ≤ 601024 ∧ slots ≤ 7293033) (hR : Rel σc σm) (K : ∀ (σc σm : zS), Rel σc σm → lG p e s m below meth c XC XM cJ ob b 1903 i [] σc σm g cells slots) : lG p e s m below meth c XC XM cJ ob b 1211 i [] σc σm g cells slots := by
  obtain ⟨r, σc1, σm1, h1, h2, hR1⟩ := O σc σm  hR
  refine l_aload C (k := 1) (ld_35 0 rfl) rfl rfl ?_
  refine l_callC (n := 1215) (As := []) (o := (some (.int r), σc1)) C (ld_35 1 rfl) rfl zll_35 F_X10_judge rfl (c_X10_judge XC 40 (by omega) 0  σc r σc1 h1) rfl rfl (Nat.le_of_ble_eq_true rfl) hcs ?_
  refine l_aload C (k := 2) (ld_35 2 rfl) rfl rfl ?_
  refine l_callM (n := 1219) (As := []) (o := (some (.int r), σm1)) C (ld_35 3 rfl) rfl zlm_35 F_X11_judge rfl (c_X11_judge XM 40 (by omega) 0  σm r σm1 h2) rfl rfl (Nat.le_of_ble_eq_true rfl) hcs ?_
  exact l_eqI C (ld_35 4 rfl) (by decide) (K σc1 σm1 hR1)
def ltt_36 : List (Nat × Instr × Nat) := [(1224, .aload_n 1, 1), (1225, .aload_n 0, 1), (1226, .iload 4, 2), (1228, .iconst 1, 1), (1229, .iadd, 1), (1230, .iaload, 1), (1231, .aload_n 0, 1), (1232, .iload 4, 2), (1234, .iconst 2, 1), (1235, .iadd, 1), (1236, .iaload, 1), (1237, .ifCond .eq 7, 3), (1240, .iconst 1, 1), (1241, .goto 4, 3), (1244, .iconst 0, 1), (1245, .aload_n 0, 1), (1246, .iload 4, 2), (1248, .iconst 3, 1), (1249, .iadd, 1), (1250, .iaload, 1), (1251, .ifCond .eq 7, 3), (1254, .iconst 1, 1), (1255, .goto 4, 3), (1258, .iconst 0, 1), (1259, .aload_n 0, 1), (1260, .iload 4, 2), (1262, .iconst 4, 1), (1263, .iadd, 1), (1264, .iaload, 1), (1265, .ifCond .eq 7, 3), (1268, .iconst 1, 1), (1269, .goto 4, 3), (1272, .iconst 0, 1), (1273, .invokevirtual 168, 3), (1276, .aload_n 2, 1), (1277, .aload_n 0, 1), (1278, .iload 4, 2), (1280, .iconst 1, 1), (1281, .iadd, 1), (1282, .iaload, 1), (1283, .aload_n 0, 1), (1284, .iload 4, 2), (1286, .iconst 2, 1), (1287, .iadd, 1), (1288, .iaload, 1), (1289, .ifCond .eq 7, 3), (1292, .iconst 1, 1), (1293, .goto 4, 3), (1296, .iconst 0, 1), (1297, .aload_n 0, 1), (1298, .iload 4, 2), (1300, .iconst 3, 1), (1301, .iadd, 1), (1302, .iaload, 1), (1303, .ifCond .eq 7, 3), (1306, .iconst 1, 1), (1307, .goto 4, 3), (1310, .iconst 0, 1), (1311, .aload_n 0, 1), (1312, .iload 4, 2), (1314, .iconst 4, 1), (1315, .iadd, 1), (1316, .iaload, 1), (1317, .ifCond .eq 7, 3), (1320, .iconst 1, 1), (1321, .goto 4, 3), (1324, .iconst 0, 1), (1325, .invokevirtual 172, 3), (1328, .if_icmp .eq 575, 3), (1331, .iconst 0, 1)]
theorem ld0_36 : ∀ q ∈ ltt_36, decode code q.1 = .ok q.2 := by decide +kernel
theorem ld_36 (i : Nat) {pc n : Nat} {g : Instr} (h : ltt_36[i]? = some (pc, g, n)) : decode code pc = .ok (g, n) := ld0_36 (pc, g, n) (List.mem_of_getElem? h)
def zO_foot (Rel : zS → zS → Prop) : Prop := ∀ (σc σm : zS) (a1 : Int32) (a2 : Int32) (a3 : Int32) (a4 : Int32), Rel σc σm → ∃ (r : Int32) (σc1 σm1 : zS), f_X10_foot 0 a1 a2 a3 a4 σc = some (r, σc1) ∧ f_X11_foot 0 a1 a2 a3 a4 σm = some (r, σm1) ∧ Rel σc1 σm1
theorem zll_36 : Cond.methodLink R_law 168 M_X10_foot.1 ∈ zTT := zTT_in (i := 1124) (by decide +kernel) rfl
theorem zlm_36 : Cond.methodLink R_law 172 M_X11_foot.1 ∈ zTT := zTT_in (i := 1911) (by decide +kernel) rfl
theorem lw_case_36 {p : Program} {e : Env} {s : State} {m : MethodId} {below : List Frame} {meth : Method} {c : Code} {XC XM : zX} {cJ : ClassId} {ob b L : Nat} {xs : Nat → Int32} {i : Nat} {σc σm : zS} {g : Nat → Int64} {cells slots : Nat} {Rel : zS → zS → Prop} (C : lC p s m meth c XC XM cJ ob b L xs) (O : zO_foot Rel) (hi : i + 6 ≤ L) (hcs : cells ≤ 601024 ∧ slots ≤ 7293033) (hR : Rel σc σm) (K : ∀ (σc σm : zS), Rel σc σm → lG p e s m below meth c XC XM cJ ob b 1903 i [] σc σm g cells slots) : lG p e s m below meth c XC XM cJ ob b 1224 i [] σc σm g cells slots := by
  obtain ⟨r, σc1, σm1, h1, h2, hR1⟩ := O σc σm (xs (i + 1)) (zbo (xs (i + 2))) (zbo (xs (i + 3))) (zbo (xs (i + 4))) hR
  refine l_aload C (k := 1) (ld_36 0 rfl) rfl rfl ?_
  refine l_arg C 1 1231 (ld_36 1 rfl) (ld_36 2 rfl) (ld_36 3 rfl) (ld_36 4 rfl) (ld_36 5 rfl) (by decide) (by omega) rfl ?_
  refine l_arg C 2 1237 (ld_36 6 rfl) (ld_36 7 rfl) (ld_36 8 rfl) (ld_36 9 rfl) (ld_36 10 rfl) (by decide) (by omega) rfl ?_
  refine l_bool C 1245 (ld_36 11 rfl) (ld_36 12 rfl) (ld_36 13 rfl) (ld_36 14 rfl) rfl ?_
  refine l_arg C 3 1251 (ld_36 15 rfl) (ld_36 16 rfl) (ld_36 17 rfl) (ld_36 18 rfl) (ld_36 19 rfl) (by decide) (by omega) rfl ?_
  refine l_bool C 1259 (ld_36 20 rfl) (ld_36 21 rfl) (ld_36 22 rfl) (ld_36 23 rfl) rfl ?_
  refine l_arg C 4 1265 (ld_36 24 rfl) (ld_36 25 rfl) (ld_36 26 rfl) (ld_36 27 rfl) (ld_36 28 rfl) (by decide) (by omega) rfl ?_
  refine l_bool C 1273 (ld_36 29 rfl) (ld_36 30 rfl) (ld_36 31 rfl) (ld_36 32 rfl) rfl ?_
  refine l_callC (n := 1276) (As := [.int (xs (i + 1)), .int (zbo (xs (i + 2))), .int (zbo (xs (i + 3))), .int (zbo (xs (i + 4)))]) (o := (some (.int r), σc1)) C (ld_36 33 rfl) rfl zll_36 F_X10_foot rfl (c_X10_foot XC 40 (by omega) 0 (xs (i + 1)) (zbo (xs (i + 2))) (zbo (xs (i + 3))) (zbo (xs (i + 4))) σc r σc1 h1) rfl rfl (Nat.le_of_ble_eq_true rfl) hcs ?_
  refine l_aload C (k := 2) (ld_36 34 rfl) rfl rfl ?_
  refine l_arg C 1 1283 (ld_36 35 rfl) (ld_36 36 rfl) (ld_36 37 rfl) (ld_36 38 rfl) (ld_36 39 rfl) (by decide) (by omega) rfl ?_
  refine l_arg C 2 1289 (ld_36 40 rfl) (ld_36 41 rfl) (ld_36 42 rfl) (ld_36 43 rfl) (ld_36 44 rfl) (by decide) (by omega) rfl ?_
  refine l_bool C 1297 (ld_36 45 rfl) (ld_36 46 rfl) (ld_36 47 rfl) (ld_36 48 rfl) rfl ?_
  refine l_arg C 3 1303 (ld_36 49 rfl) (ld_36 50 rfl) (ld_36 51 rfl) (ld_36 52 rfl) (ld_36 53 rfl) (by decide) (by omega) rfl ?_
  refine l_bool C 1311 (ld_36 54 rfl) (ld_36 55 rfl) (ld_36 56 rfl) (ld_36 57 rfl) rfl ?_
  refine l_arg C 4 1317 (ld_36 58 rfl) (ld_36 59 rfl) (ld_36 60 rfl) (ld_36 61 rfl) (ld_36 62 rfl) (by decide) (by omega) rfl ?_
  refine l_bool C 1325 (ld_36 63 rfl) (ld_36 64 rfl) (ld_36 65 rfl) (ld_36 66 rfl) rfl ?_
  refine l_callM (n := 1328) (As := [.int (xs (i + 1)), .int (zbo (xs (i + 2))), .int (zbo (xs (i + 3))), .int (zbo (xs (i + 4)))]) (o := (some (.int r), σm1)) C (ld_36 67 rfl) rfl zlm_36 F_X11_foot rfl (c_X11_foot XM 40 (by omega) 0 (xs (i + 1)) (zbo (xs (i + 2))) (zbo (xs (i + 3))) (zbo (xs (i + 4))) σm r σm1 h2) rfl rfl (Nat.le_of_ble_eq_true rfl) hcs ?_
  exact l_eqI C (ld_36 68 rfl) (by decide) (K σc1 σm1 hR1)
def ltt_37 : List (Nat × Instr × Nat) := [(1333, .aload_n 1, 1), (1334, .aload_n 0, 1), (1335, .iload 4, 2), (1337, .iconst 1, 1), (1338, .iadd, 1), (1339, .iaload, 1), (1340, .invokevirtual 173, 3), (1343, .aload_n 2, 1), (1344, .aload_n 0, 1), (1345, .iload 4, 2), (1347, .iconst 1, 1), (1348, .iadd, 1), (1349, .iaload, 1), (1350, .invokevirtual 176, 3), (1353, .if_icmp .eq 550, 3), (1356, .iconst 0, 1)]
theorem ld0_37 : ∀ q ∈ ltt_37, decode code q.1 = .ok q.2 := by decide +kernel
theorem ld_37 (i : Nat) {pc n : Nat} {g : Instr} (h : ltt_37[i]? = some (pc, g, n)) : decode code pc = .ok (g, n) := ld0_37 (pc, g, n) (List.mem_of_getElem? h)
def zO_rests (Rel : zS → zS → Prop) : Prop := ∀ (σc σm : zS) (a1 : Int32), Rel σc σm → ∃ (r : Int32) (σc1 σm1 : zS), f_X10_rests 0 a1 σc = some (r, σc1) ∧ f_X11_rests 0 a1 σm = some (r, σm1) ∧ Rel σc1 σm1
theorem zll_37 : Cond.methodLink R_law 173 M_X10_rests.1 ∈ zTT := zTT_in (i := 1134) (by decide +kernel) rfl
theorem zlm_37 : Cond.methodLink R_law 176 M_X11_rests.1 ∈ zTT := zTT_in (i := 1918) (by decide +kernel) rfl
theorem lw_case_37 {p : Program} {e : Env} {s : State} {m : MethodId} {below : List Frame} {meth : Method} {c : Code} {XC XM : zX} {cJ : ClassId} {ob b L : Nat} {xs : Nat → Int32} {i : Nat} {σc σm : zS} {g : Nat → Int64} {cells slots : Nat} {Rel : zS → zS → Prop} (C : lC p s m meth c XC XM cJ ob b L xs) (O : zO_rests Rel) (hi : i + 6 ≤ L) (hcs : cells ≤ 601024 ∧ slots ≤ 7293033) (hR : Rel σc σm) (K : ∀ (σc σm : zS), Rel σc σm → lG p e s m below meth c XC XM cJ ob b 1903 i [] σc σm g cells slots) : lG p e s m below meth c XC XM cJ ob b 1333 i [] σc σm g cells slots := by
  obtain ⟨r, σc1, σm1, h1, h2, hR1⟩ := O σc σm (xs (i + 1)) hR
  refine l_aload C (k := 1) (ld_37 0 rfl) rfl rfl ?_
  refine l_arg C 1 1340 (ld_37 1 rfl) (ld_37 2 rfl) (ld_37 3 rfl) (ld_37 4 rfl) (ld_37 5 rfl) (by decide) (by omega) rfl ?_
  refine l_callC (n := 1343) (As := [.int (xs (i + 1))]) (o := (some (.int r), σc1)) C (ld_37 6 rfl) rfl zll_37 F_X10_rests rfl (c_X10_rests XC 40 (by omega) 0 (xs (i + 1)) σc r σc1 h1) rfl rfl (Nat.le_of_ble_eq_true rfl) hcs ?_
  refine l_aload C (k := 2) (ld_37 7 rfl) rfl rfl ?_
  refine l_arg C 1 1350 (ld_37 8 rfl) (ld_37 9 rfl) (ld_37 10 rfl) (ld_37 11 rfl) (ld_37 12 rfl) (by decide) (by omega) rfl ?_
  refine l_callM (n := 1353) (As := [.int (xs (i + 1))]) (o := (some (.int r), σm1)) C (ld_37 13 rfl) rfl zlm_37 F_X11_rests rfl (c_X11_rests XM 40 (by omega) 0 (xs (i + 1)) σm r σm1 h2) rfl rfl (Nat.le_of_ble_eq_true rfl) hcs ?_
  exact l_eqI C (ld_37 14 rfl) (by decide) (K σc1 σm1 hR1)
def ltt_38 : List (Nat × Instr × Nat) := [(1358, .aload_n 1, 1), (1359, .aload_n 0, 1), (1360, .iload 4, 2), (1362, .iconst 1, 1), (1363, .iadd, 1), (1364, .iaload, 1), (1365, .invokevirtual 177, 3), (1368, .aload_n 2, 1), (1369, .aload_n 0, 1), (1370, .iload 4, 2), (1372, .iconst 1, 1), (1373, .iadd, 1), (1374, .iaload, 1), (1375, .invokevirtual 180, 3), (1378, .if_icmp .eq 525, 3), (1381, .iconst 0, 1)]
theorem ld0_38 : ∀ q ∈ ltt_38, decode code q.1 = .ok q.2 := by decide +kernel
theorem ld_38 (i : Nat) {pc n : Nat} {g : Instr} (h : ltt_38[i]? = some (pc, g, n)) : decode code pc = .ok (g, n) := ld0_38 (pc, g, n) (List.mem_of_getElem? h)
def zO_rest (Rel : zS → zS → Prop) : Prop := ∀ (σc σm : zS) (a1 : Int32), Rel σc σm → ∃ (r : Int32) (σc1 σm1 : zS), f_X10_rest 0 a1 σc = some (r, σc1) ∧ f_X11_rest 0 a1 σm = some (r, σm1) ∧ Rel σc1 σm1
theorem zll_38 : Cond.methodLink R_law 177 M_X10_rest.1 ∈ zTT := zTT_in (i := 1141) (by decide +kernel) rfl
theorem zlm_38 : Cond.methodLink R_law 180 M_X11_rest.1 ∈ zTT := zTT_in (i := 1926) (by decide +kernel) rfl
theorem lw_case_38 {p : Program} {e : Env} {s : State} {m : MethodId} {below : List Frame} {meth : Method} {c : Code} {XC XM : zX} {cJ : ClassId} {ob b L : Nat} {xs : Nat → Int32} {i : Nat} {σc σm : zS} {g : Nat → Int64} {cells slots : Nat} {Rel : zS → zS → Prop} (C : lC p s m meth c XC XM cJ ob b L xs) (O : zO_rest Rel) (hi : i + 6 ≤ L) (hcs : cells ≤ 601024 ∧ slots ≤ 7293033) (hR : Rel σc σm) (K : ∀ (σc σm : zS), Rel σc σm → lG p e s m below meth c XC XM cJ ob b 1903 i [] σc σm g cells slots) : lG p e s m below meth c XC XM cJ ob b 1358 i [] σc σm g cells slots := by
  obtain ⟨r, σc1, σm1, h1, h2, hR1⟩ := O σc σm (xs (i + 1)) hR
  refine l_aload C (k := 1) (ld_38 0 rfl) rfl rfl ?_
  refine l_arg C 1 1365 (ld_38 1 rfl) (ld_38 2 rfl) (ld_38 3 rfl) (ld_38 4 rfl) (ld_38 5 rfl) (by decide) (by omega) rfl ?_
  refine l_callC (n := 1368) (As := [.int (xs (i + 1))]) (o := (some (.int r), σc1)) C (ld_38 6 rfl) rfl zll_38 F_X10_rest rfl (c_X10_rest XC 40 (by omega) 0 (xs (i + 1)) σc r σc1 h1) rfl rfl (Nat.le_of_ble_eq_true rfl) hcs ?_
  refine l_aload C (k := 2) (ld_38 7 rfl) rfl rfl ?_
  refine l_arg C 1 1375 (ld_38 8 rfl) (ld_38 9 rfl) (ld_38 10 rfl) (ld_38 11 rfl) (ld_38 12 rfl) (by decide) (by omega) rfl ?_
  refine l_callM (n := 1378) (As := [.int (xs (i + 1))]) (o := (some (.int r), σm1)) C (ld_38 13 rfl) rfl zlm_38 F_X11_rest rfl (c_X11_rest XM 40 (by omega) 0 (xs (i + 1)) σm r σm1 h2) rfl rfl (Nat.le_of_ble_eq_true rfl) hcs ?_
  exact l_eqI C (ld_38 14 rfl) (by decide) (K σc1 σm1 hR1)
def ltt_39 : List (Nat × Instr × Nat) := [(1383, .aload_n 1, 1), (1384, .aload_n 0, 1), (1385, .iload 4, 2), (1387, .iconst 1, 1), (1388, .iadd, 1), (1389, .iaload, 1), (1390, .aload_n 0, 1), (1391, .iload 4, 2), (1393, .iconst 2, 1), (1394, .iadd, 1), (1395, .iaload, 1), (1396, .ifCond .eq 7, 3), (1399, .iconst 1, 1), (1400, .goto 4, 3), (1403, .iconst 0, 1), (1404, .invokevirtual 181, 3), (1407, .aload_n 2, 1), (1408, .aload_n 0, 1), (1409, .iload 4, 2), (1411, .iconst 1, 1), (1412, .iadd, 1), (1413, .iaload, 1), (1414, .aload_n 0, 1), (1415, .iload 4, 2), (1417, .iconst 2, 1), (1418, .iadd, 1), (1419, .iaload, 1), (1420, .ifCond .eq 7, 3), (1423, .iconst 1, 1), (1424, .goto 4, 3), (1427, .iconst 0, 1), (1428, .invokevirtual 185, 3), (1431, .lcmp, 1), (1432, .ifCond .eq 471, 3), (1435, .iconst 0, 1)]
theorem ld0_39 : ∀ q ∈ ltt_39, decode code q.1 = .ok q.2 := by decide +kernel
theorem ld_39 (i : Nat) {pc n : Nat} {g : Instr} (h : ltt_39[i]? = some (pc, g, n)) : decode code pc = .ok (g, n) := ld0_39 (pc, g, n) (List.mem_of_getElem? h)
def zO_odds (Rel : zS → zS → Prop) : Prop := ∀ (σc σm : zS) (a1 : Int32) (a2 : Int32), Rel σc σm → ∃ (r : Int64) (σc1 σm1 : zS), f_X10_odds 0 a1 a2 σc = some (r, σc1) ∧ f_X11_odds 0 a1 a2 σm = some (r, σm1) ∧ Rel σc1 σm1
theorem zll_39 : Cond.methodLink R_law 181 M_X10_odds.1 ∈ zTT := zTT_in (i := 1145) (by decide +kernel) rfl
theorem zlm_39 : Cond.methodLink R_law 185 M_X11_odds.1 ∈ zTT := zTT_in (i := 1930) (by decide +kernel) rfl
theorem lw_case_39 {p : Program} {e : Env} {s : State} {m : MethodId} {below : List Frame} {meth : Method} {c : Code} {XC XM : zX} {cJ : ClassId} {ob b L : Nat} {xs : Nat → Int32} {i : Nat} {σc σm : zS} {g : Nat → Int64} {cells slots : Nat} {Rel : zS → zS → Prop} (C : lC p s m meth c XC XM cJ ob b L xs) (O : zO_odds Rel) (hi : i + 6 ≤ L) (hcs : cells ≤ 601024 ∧ slots ≤ 7293033) (hR : Rel σc σm) (K : ∀ (σc σm : zS), Rel σc σm → lG p e s m below meth c XC XM cJ ob b 1903 i [] σc σm g cells slots) : lG p e s m below meth c XC XM cJ ob b 1383 i [] σc σm g cells slots := by
  obtain ⟨r, σc1, σm1, h1, h2, hR1⟩ := O σc σm (xs (i + 1)) (zbo (xs (i + 2))) hR
  refine l_aload C (k := 1) (ld_39 0 rfl) rfl rfl ?_
  refine l_arg C 1 1390 (ld_39 1 rfl) (ld_39 2 rfl) (ld_39 3 rfl) (ld_39 4 rfl) (ld_39 5 rfl) (by decide) (by omega) rfl ?_
  refine l_arg C 2 1396 (ld_39 6 rfl) (ld_39 7 rfl) (ld_39 8 rfl) (ld_39 9 rfl) (ld_39 10 rfl) (by decide) (by omega) rfl ?_
  refine l_bool C 1404 (ld_39 11 rfl) (ld_39 12 rfl) (ld_39 13 rfl) (ld_39 14 rfl) rfl ?_
  refine l_callC (n := 1407) (As := [.int (xs (i + 1)), .int (zbo (xs (i + 2)))]) (o := (some (.long r), σc1)) C (ld_39 15 rfl) rfl zll_39 F_X10_odds rfl (c_X10_odds XC 40 (by omega) 0 (xs (i + 1)) (zbo (xs (i + 2))) σc r σc1 h1) rfl rfl (Nat.le_of_ble_eq_true rfl) hcs ?_
  refine l_aload C (k := 2) (ld_39 16 rfl) rfl rfl ?_
  refine l_arg C 1 1414 (ld_39 17 rfl) (ld_39 18 rfl) (ld_39 19 rfl) (ld_39 20 rfl) (ld_39 21 rfl) (by decide) (by omega) rfl ?_
  refine l_arg C 2 1420 (ld_39 22 rfl) (ld_39 23 rfl) (ld_39 24 rfl) (ld_39 25 rfl) (ld_39 26 rfl) (by decide) (by omega) rfl ?_
  refine l_bool C 1428 (ld_39 27 rfl) (ld_39 28 rfl) (ld_39 29 rfl) (ld_39 30 rfl) rfl ?_
  refine l_callM (n := 1431) (As := [.int (xs (i + 1)), .int (zbo (xs (i + 2)))]) (o := (some (.long r), σm1)) C (ld_39 31 rfl) rfl zlm_39 F_X11_odds rfl (c_X11_odds XM 40 (by omega) 0 (xs (i + 1)) (zbo (xs (i + 2))) σm r σm1 h2) rfl rfl (Nat.le_of_ble_eq_true rfl) hcs ?_
  exact l_eqL C (ld_39 32 rfl) (ld_39 33 rfl) (by decide) (K σc1 σm1 hR1)
def ltt_40 : List (Nat × Instr × Nat) := [(1437, .aload_n 1, 1), (1438, .aload_n 0, 1), (1439, .iload 4, 2), (1441, .iconst 1, 1), (1442, .iadd, 1), (1443, .iaload, 1), (1444, .aload_n 0, 1), (1445, .iload 4, 2), (1447, .iconst 2, 1), (1448, .iadd, 1), (1449, .iaload, 1), (1450, .ifCond .eq 7, 3), (1453, .iconst 1, 1), (1454, .goto 4, 3), (1457, .iconst 0, 1), (1458, .invokevirtual 186, 3), (1461, .aload_n 2, 1), (1462, .aload_n 0, 1), (1463, .iload 4, 2), (1465, .iconst 1, 1), (1466, .iadd, 1), (1467, .iaload, 1), (1468, .aload_n 0, 1), (1469, .iload 4, 2), (1471, .iconst 2, 1), (1472, .iadd, 1), (1473, .iaload, 1), (1474, .ifCond .eq 7, 3), (1477, .iconst 1, 1), (1478, .goto 4, 3), (1481, .iconst 0, 1), (1482, .invokevirtual 189, 3), (1485, .lcmp, 1), (1486, .ifCond .eq 417, 3), (1489, .iconst 0, 1)]
theorem ld0_40 : ∀ q ∈ ltt_40, decode code q.1 = .ok q.2 := by decide +kernel
theorem ld_40 (i : Nat) {pc n : Nat} {g : Instr} (h : ltt_40[i]? = some (pc, g, n)) : decode code pc = .ok (g, n) := ld0_40 (pc, g, n) (List.mem_of_getElem? h)
def zO_standOdds (Rel : zS → zS → Prop) : Prop := ∀ (σc σm : zS) (a1 : Int32) (a2 : Int32), Rel σc σm → ∃ (r : Int64) (σc1 σm1 : zS), f_X10_standOdds 0 a1 a2 σc = some (r, σc1) ∧ f_X11_standOdds 0 a1 a2 σm = some (r, σm1) ∧ Rel σc1 σm1
theorem zll_40 : Cond.methodLink R_law 186 M_X10_standOdds.1 ∈ zTT := zTT_in (i := 1165) (by decide +kernel) rfl
theorem zlm_40 : Cond.methodLink R_law 189 M_X11_standOdds.1 ∈ zTT := zTT_in (i := 1950) (by decide +kernel) rfl
theorem lw_case_40 {p : Program} {e : Env} {s : State} {m : MethodId} {below : List Frame} {meth : Method} {c : Code} {XC XM : zX} {cJ : ClassId} {ob b L : Nat} {xs : Nat → Int32} {i : Nat} {σc σm : zS} {g : Nat → Int64} {cells slots : Nat} {Rel : zS → zS → Prop} (C : lC p s m meth c XC XM cJ ob b L xs) (O : zO_standOdds Rel) (hi : i + 6 ≤ L) (hcs : cells ≤ 601024 ∧ slots ≤ 7293033) (hR : Rel σc σm) (K : ∀ (σc σm : zS), Rel σc σm → lG p e s m below meth c XC XM cJ ob b 1903 i [] σc σm g cells slots) : lG p e s m below meth c XC XM cJ ob b 1437 i [] σc σm g cells slots := by
  obtain ⟨r, σc1, σm1, h1, h2, hR1⟩ := O σc σm (xs (i + 1)) (zbo (xs (i + 2))) hR
  refine l_aload C (k := 1) (ld_40 0 rfl) rfl rfl ?_
  refine l_arg C 1 1444 (ld_40 1 rfl) (ld_40 2 rfl) (ld_40 3 rfl) (ld_40 4 rfl) (ld_40 5 rfl) (by decide) (by omega) rfl ?_
  refine l_arg C 2 1450 (ld_40 6 rfl) (ld_40 7 rfl) (ld_40 8 rfl) (ld_40 9 rfl) (ld_40 10 rfl) (by decide) (by omega) rfl ?_
  refine l_bool C 1458 (ld_40 11 rfl) (ld_40 12 rfl) (ld_40 13 rfl) (ld_40 14 rfl) rfl ?_
  refine l_callC (n := 1461) (As := [.int (xs (i + 1)), .int (zbo (xs (i + 2)))]) (o := (some (.long r), σc1)) C (ld_40 15 rfl) rfl zll_40 F_X10_standOdds rfl (c_X10_standOdds XC 40 (by omega) 0 (xs (i + 1)) (zbo (xs (i + 2))) σc r σc1 h1) rfl rfl (Nat.le_of_ble_eq_true rfl) hcs ?_
  refine l_aload C (k := 2) (ld_40 16 rfl) rfl rfl ?_
  refine l_arg C 1 1468 (ld_40 17 rfl) (ld_40 18 rfl) (ld_40 19 rfl) (ld_40 20 rfl) (ld_40 21 rfl) (by decide) (by omega) rfl ?_
  refine l_arg C 2 1474 (ld_40 22 rfl) (ld_40 23 rfl) (ld_40 24 rfl) (ld_40 25 rfl) (ld_40 26 rfl) (by decide) (by omega) rfl ?_
  refine l_bool C 1482 (ld_40 27 rfl) (ld_40 28 rfl) (ld_40 29 rfl) (ld_40 30 rfl) rfl ?_
  refine l_callM (n := 1485) (As := [.int (xs (i + 1)), .int (zbo (xs (i + 2)))]) (o := (some (.long r), σm1)) C (ld_40 31 rfl) rfl zlm_40 F_X11_standOdds rfl (c_X11_standOdds XM 40 (by omega) 0 (xs (i + 1)) (zbo (xs (i + 2))) σm r σm1 h2) rfl rfl (Nat.le_of_ble_eq_true rfl) hcs ?_
  exact l_eqL C (ld_40 32 rfl) (ld_40 33 rfl) (by decide) (K σc1 σm1 hR1)
def ltt_41 : List (Nat × Instr × Nat) := [(1491, .aload_n 1, 1), (1492, .aload_n 0, 1), (1493, .iload 4, 2), (1495, .iconst 1, 1), (1496, .iadd, 1), (1497, .iaload, 1), (1498, .ifCond .eq 7, 3), (1501, .iconst 1, 1), (1502, .goto 4, 3), (1505, .iconst 0, 1), (1506, .invokevirtual 190, 3), (1509, .aload_n 2, 1), (1510, .aload_n 0, 1), (1511, .iload 4, 2), (1513, .iconst 1, 1), (1514, .iadd, 1), (1515, .iaload, 1), (1516, .ifCond .eq 7, 3), (1519, .iconst 1, 1), (1520, .goto 4, 3), (1523, .iconst 0, 1), (1524, .invokevirtual 194, 3), (1527, .lcmp, 1), (1528, .ifCond .eq 375, 3), (1531, .iconst 0, 1)]
theorem ld0_41 : ∀ q ∈ ltt_41, decode code q.1 = .ok q.2 := by decide +kernel
theorem ld_41 (i : Nat) {pc n : Nat} {g : Instr} (h : ltt_41[i]? = some (pc, g, n)) : decode code pc = .ok (g, n) := ld0_41 (pc, g, n) (List.mem_of_getElem? h)
def zO_mean (Rel : zS → zS → Prop) : Prop := ∀ (σc σm : zS) (a1 : Int32), Rel σc σm → ∃ (r : Int64) (σc1 σm1 : zS), f_X10_mean 0 a1 σc = some (r, σc1) ∧ f_X11_mean 0 a1 σm = some (r, σm1) ∧ Rel σc1 σm1
theorem zll_41 : Cond.methodLink R_law 190 M_X10_mean.1 ∈ zTT := zTT_in (i := 1169) (by decide +kernel) rfl
theorem zlm_41 : Cond.methodLink R_law 194 M_X11_mean.1 ∈ zTT := zTT_in (i := 1954) (by decide +kernel) rfl
theorem lw_case_41 {p : Program} {e : Env} {s : State} {m : MethodId} {below : List Frame} {meth : Method} {c : Code} {XC XM : zX} {cJ : ClassId} {ob b L : Nat} {xs : Nat → Int32} {i : Nat} {σc σm : zS} {g : Nat → Int64} {cells slots : Nat} {Rel : zS → zS → Prop} (C : lC p s m meth c XC XM cJ ob b L xs) (O : zO_mean Rel) (hi : i + 6 ≤ L) (hcs : cells ≤ 601024 ∧ slots ≤ 7293033) (hR : Rel σc σm) (K : ∀ (σc σm : zS), Rel σc σm → lG p e s m below meth c XC XM cJ ob b 1903 i [] σc σm g cells slots) : lG p e s m below meth c XC XM cJ ob b 1491 i [] σc σm g cells slots := by
  obtain ⟨r, σc1, σm1, h1, h2, hR1⟩ := O σc σm (zbo (xs (i + 1))) hR
  refine l_aload C (k := 1) (ld_41 0 rfl) rfl rfl ?_
  refine l_arg C 1 1498 (ld_41 1 rfl) (ld_41 2 rfl) (ld_41 3 rfl) (ld_41 4 rfl) (ld_41 5 rfl) (by decide) (by omega) rfl ?_
  refine l_bool C 1506 (ld_41 6 rfl) (ld_41 7 rfl) (ld_41 8 rfl) (ld_41 9 rfl) rfl ?_
  refine l_callC (n := 1509) (As := [.int (zbo (xs (i + 1)))]) (o := (some (.long r), σc1)) C (ld_41 10 rfl) rfl zll_41 F_X10_mean rfl (c_X10_mean XC 40 (by omega) 0 (zbo (xs (i + 1))) σc r σc1 h1) rfl rfl (Nat.le_of_ble_eq_true rfl) hcs ?_
  refine l_aload C (k := 2) (ld_41 11 rfl) rfl rfl ?_
  refine l_arg C 1 1516 (ld_41 12 rfl) (ld_41 13 rfl) (ld_41 14 rfl) (ld_41 15 rfl) (ld_41 16 rfl) (by decide) (by omega) rfl ?_
  refine l_bool C 1524 (ld_41 17 rfl) (ld_41 18 rfl) (ld_41 19 rfl) (ld_41 20 rfl) rfl ?_
  refine l_callM (n := 1527) (As := [.int (zbo (xs (i + 1)))]) (o := (some (.long r), σm1)) C (ld_41 21 rfl) rfl zlm_41 F_X11_mean rfl (c_X11_mean XM 40 (by omega) 0 (zbo (xs (i + 1))) σm r σm1 h2) rfl rfl (Nat.le_of_ble_eq_true rfl) hcs ?_
  exact l_eqL C (ld_41 22 rfl) (ld_41 23 rfl) (by decide) (K σc1 σm1 hR1)
def ltt_42 : List (Nat × Instr × Nat) := [(1533, .aload_n 1, 1), (1534, .aload_n 0, 1), (1535, .iload 4, 2), (1537, .iconst 1, 1), (1538, .iadd, 1), (1539, .iaload, 1), (1540, .aload_n 0, 1), (1541, .iload 4, 2), (1543, .iconst 2, 1), (1544, .iadd, 1), (1545, .iaload, 1), (1546, .aload_n 0, 1), (1547, .iload 4, 2), (1549, .iconst 3, 1), (1550, .iadd, 1), (1551, .iaload, 1), (1552, .invokevirtual 195, 3), (1555, .aload_n 2, 1), (1556, .aload_n 0, 1), (1557, .iload 4, 2), (1559, .iconst 1, 1), (1560, .iadd, 1), (1561, .iaload, 1), (1562, .aload_n 0, 1), (1563, .iload 4, 2), (1565, .iconst 2, 1), (1566, .iadd, 1), (1567, .iaload, 1), (1568, .aload_n 0, 1), (1569, .iload 4, 2), (1571, .iconst 3, 1), (1572, .iadd, 1), (1573, .iaload, 1), (1574, .invokevirtual 199, 3), (1577, .if_icmp .eq 326, 3), (1580, .iconst 0, 1)]
theorem ld0_42 : ∀ q ∈ ltt_42, decode code q.1 = .ok q.2 := by decide +kernel
theorem ld_42 (i : Nat) {pc n : Nat} {g : Instr} (h : ltt_42[i]? = some (pc, g, n)) : decode code pc = .ok (g, n) := ld0_42 (pc, g, n) (List.mem_of_getElem? h)
def zO_thumbs (Rel : zS → zS → Prop) : Prop := ∀ (σc σm : zS) (a1 : Int32) (a2 : Int32) (a3 : Int32), Rel σc σm → ∃ (r : Int32) (σc1 σm1 : zS), f_X10_thumbs 0 a1 a2 a3 σc = some (r, σc1) ∧ f_X11_thumbs 0 a1 a2 a3 σm = some (r, σm1) ∧ Rel σc1 σm1
theorem zll_42 : Cond.methodLink R_law 195 M_X10_thumbs.1 ∈ zTT := zTT_in (i := 1173) (by decide +kernel) rfl
theorem zlm_42 : Cond.methodLink R_law 199 M_X11_thumbs.1 ∈ zTT := zTT_in (i := 1958) (by decide +kernel) rfl
theorem lw_case_42 {p : Program} {e : Env} {s : State} {m : MethodId} {below : List Frame} {meth : Method} {c : Code} {XC XM : zX} {cJ : ClassId} {ob b L : Nat} {xs : Nat → Int32} {i : Nat} {σc σm : zS} {g : Nat → Int64} {cells slots : Nat} {Rel : zS → zS → Prop} (C : lC p s m meth c XC XM cJ ob b L xs) (O : zO_thumbs Rel) (hi : i + 6 ≤ L) (hcs : cells ≤ 601024 ∧ slots ≤ 7293033) (hR : Rel σc σm) (K : ∀ (σc σm : zS), Rel σc σm → lG p e s m below meth c XC XM cJ ob b 1903 i [] σc σm g cells slots) : lG p e s m below meth c XC XM cJ ob b 1533 i [] σc σm g cells slots := by
  obtain ⟨r, σc1, σm1, h1, h2, hR1⟩ := O σc σm (xs (i + 1)) (xs (i + 2)) (xs (i + 3)) hR
  refine l_aload C (k := 1) (ld_42 0 rfl) rfl rfl ?_
  refine l_arg C 1 1540 (ld_42 1 rfl) (ld_42 2 rfl) (ld_42 3 rfl) (ld_42 4 rfl) (ld_42 5 rfl) (by decide) (by omega) rfl ?_
  refine l_arg C 2 1546 (ld_42 6 rfl) (ld_42 7 rfl) (ld_42 8 rfl) (ld_42 9 rfl) (ld_42 10 rfl) (by decide) (by omega) rfl ?_
  refine l_arg C 3 1552 (ld_42 11 rfl) (ld_42 12 rfl) (ld_42 13 rfl) (ld_42 14 rfl) (ld_42 15 rfl) (by decide) (by omega) rfl ?_
  refine l_callC (n := 1555) (As := [.int (xs (i + 1)), .int (xs (i + 2)), .int (xs (i + 3))]) (o := (some (.int r), σc1)) C (ld_42 16 rfl) rfl zll_42 F_X10_thumbs rfl (c_X10_thumbs XC 40 (by omega) 0 (xs (i + 1)) (xs (i + 2)) (xs (i + 3)) σc r σc1 h1) rfl rfl (Nat.le_of_ble_eq_true rfl) hcs ?_
  refine l_aload C (k := 2) (ld_42 17 rfl) rfl rfl ?_
  refine l_arg C 1 1562 (ld_42 18 rfl) (ld_42 19 rfl) (ld_42 20 rfl) (ld_42 21 rfl) (ld_42 22 rfl) (by decide) (by omega) rfl ?_
  refine l_arg C 2 1568 (ld_42 23 rfl) (ld_42 24 rfl) (ld_42 25 rfl) (ld_42 26 rfl) (ld_42 27 rfl) (by decide) (by omega) rfl ?_
  refine l_arg C 3 1574 (ld_42 28 rfl) (ld_42 29 rfl) (ld_42 30 rfl) (ld_42 31 rfl) (ld_42 32 rfl) (by decide) (by omega) rfl ?_
  refine l_callM (n := 1577) (As := [.int (xs (i + 1)), .int (xs (i + 2)), .int (xs (i + 3))]) (o := (some (.int r), σm1)) C (ld_42 33 rfl) rfl zlm_42 F_X11_thumbs rfl (c_X11_thumbs XM 40 (by omega) 0 (xs (i + 1)) (xs (i + 2)) (xs (i + 3)) σm r σm1 h2) rfl rfl (Nat.le_of_ble_eq_true rfl) hcs ?_
  exact l_eqI C (ld_42 34 rfl) (by decide) (K σc1 σm1 hR1)
def ltt_43 : List (Nat × Instr × Nat) := [(1582, .aload_n 1, 1), (1583, .aload_n 0, 1), (1584, .iload 4, 2), (1586, .iconst 1, 1), (1587, .iadd, 1), (1588, .iaload, 1), (1589, .aload_n 0, 1), (1590, .iload 4, 2), (1592, .iconst 2, 1), (1593, .iadd, 1), (1594, .iaload, 1), (1595, .invokevirtual 200, 3), (1598, .aload_n 2, 1), (1599, .aload_n 0, 1), (1600, .iload 4, 2), (1602, .iconst 1, 1), (1603, .iadd, 1), (1604, .iaload, 1), (1605, .aload_n 0, 1), (1606, .iload 4, 2), (1608, .iconst 2, 1), (1609, .iadd, 1), (1610, .iaload, 1), (1611, .invokevirtual 203, 3), (1614, .if_icmp .eq 289, 3), (1617, .iconst 0, 1)]
theorem ld0_43 : ∀ q ∈ ltt_43, decode code q.1 = .ok q.2 := by decide +kernel
theorem ld_43 (i : Nat) {pc n : Nat} {g : Instr} (h : ltt_43[i]? = some (pc, g, n)) : decode code pc = .ok (g, n) := ld0_43 (pc, g, n) (List.mem_of_getElem? h)
def zO_smudged (Rel : zS → zS → Prop) : Prop := ∀ (σc σm : zS) (a1 : Int32) (a2 : Int32), Rel σc σm → ∃ (r : Int32) (σc1 σm1 : zS), f_X10_smudged 0 a1 a2 σc = some (r, σc1) ∧ f_X11_smudged 0 a1 a2 σm = some (r, σm1) ∧ Rel σc1 σm1
theorem zll_43 : Cond.methodLink R_law 200 M_X10_smudged.1 ∈ zTT := zTT_in (i := 1185) (by decide +kernel) rfl
theorem zlm_43 : Cond.methodLink R_law 203 M_X11_smudged.1 ∈ zTT := zTT_in (i := 1968) (by decide +kernel) rfl
theorem lw_case_43 {p : Program} {e : Env} {s : State} {m : MethodId} {below : List Frame} {meth : Method} {c : Code} {XC XM : zX} {cJ : ClassId} {ob b L : Nat} {xs : Nat → Int32} {i : Nat} {σc σm : zS} {g : Nat → Int64} {cells slots : Nat} {Rel : zS → zS → Prop} (C : lC p s m meth c XC XM cJ ob b L xs) (O : zO_smudged Rel) (hi : i + 6 ≤ L) (hcs : cells ≤ 601024 ∧ slots ≤ 7293033) (hR : Rel σc σm) (K : ∀ (σc σm : zS), Rel σc σm → lG p e s m below meth c XC XM cJ ob b 1903 i [] σc σm g cells slots) : lG p e s m below meth c XC XM cJ ob b 1582 i [] σc σm g cells slots := by
  obtain ⟨r, σc1, σm1, h1, h2, hR1⟩ := O σc σm (xs (i + 1)) (xs (i + 2)) hR
  refine l_aload C (k := 1) (ld_43 0 rfl) rfl rfl ?_
  refine l_arg C 1 1589 (ld_43 1 rfl) (ld_43 2 rfl) (ld_43 3 rfl) (ld_43 4 rfl) (ld_43 5 rfl) (by decide) (by omega) rfl ?_
  refine l_arg C 2 1595 (ld_43 6 rfl) (ld_43 7 rfl) (ld_43 8 rfl) (ld_43 9 rfl) (ld_43 10 rfl) (by decide) (by omega) rfl ?_
  refine l_callC (n := 1598) (As := [.int (xs (i + 1)), .int (xs (i + 2))]) (o := (some (.int r), σc1)) C (ld_43 11 rfl) rfl zll_43 F_X10_smudged rfl (c_X10_smudged XC 40 (by omega) 0 (xs (i + 1)) (xs (i + 2)) σc r σc1 h1) rfl rfl (Nat.le_of_ble_eq_true rfl) hcs ?_
  refine l_aload C (k := 2) (ld_43 12 rfl) rfl rfl ?_
  refine l_arg C 1 1605 (ld_43 13 rfl) (ld_43 14 rfl) (ld_43 15 rfl) (ld_43 16 rfl) (ld_43 17 rfl) (by decide) (by omega) rfl ?_
  refine l_arg C 2 1611 (ld_43 18 rfl) (ld_43 19 rfl) (ld_43 20 rfl) (ld_43 21 rfl) (ld_43 22 rfl) (by decide) (by omega) rfl ?_
  refine l_callM (n := 1614) (As := [.int (xs (i + 1)), .int (xs (i + 2))]) (o := (some (.int r), σm1)) C (ld_43 23 rfl) rfl zlm_43 F_X11_smudged rfl (c_X11_smudged XM 40 (by omega) 0 (xs (i + 1)) (xs (i + 2)) σm r σm1 h2) rfl rfl (Nat.le_of_ble_eq_true rfl) hcs ?_
  exact l_eqI C (ld_43 24 rfl) (by decide) (K σc1 σm1 hR1)
def ltt_44 : List (Nat × Instr × Nat) := [(1619, .aload_n 1, 1), (1620, .aload_n 0, 1), (1621, .iload 4, 2), (1623, .iconst 1, 1), (1624, .iadd, 1), (1625, .iaload, 1), (1626, .aload_n 0, 1), (1627, .iload 4, 2), (1629, .iconst 2, 1), (1630, .iadd, 1), (1631, .iaload, 1), (1632, .aload_n 0, 1), (1633, .iload 4, 2), (1635, .iconst 3, 1), (1636, .iadd, 1), (1637, .iaload, 1), (1638, .aload_n 0, 1), (1639, .iload 4, 2), (1641, .iconst 4, 1), (1642, .iadd, 1), (1643, .iaload, 1), (1644, .ifCond .eq 7, 3), (1647, .iconst 1, 1), (1648, .goto 4, 3), (1651, .iconst 0, 1), (1652, .aload_n 0, 1), (1653, .iload 4, 2), (1655, .iconst 5, 1), (1656, .iadd, 1), (1657, .iaload, 1), (1658, .invokevirtual 204, 3), (1661, .aload_n 2, 1), (1662, .aload_n 0, 1), (1663, .iload 4, 2), (1665, .iconst 1, 1), (1666, .iadd, 1), (1667, .iaload, 1), (1668, .aload_n 0, 1), (1669, .iload 4, 2), (1671, .iconst 2, 1), (1672, .iadd, 1), (1673, .iaload, 1), (1674, .aload_n 0, 1), (1675, .iload 4, 2), (1677, .iconst 3, 1), (1678, .iadd, 1), (1679, .iaload, 1), (1680, .aload_n 0, 1), (1681, .iload 4, 2), (1683, .iconst 4, 1), (1684, .iadd, 1), (1685, .iaload, 1), (1686, .ifCond .eq 7, 3), (1689, .iconst 1, 1), (1690, .goto 4, 3), (1693, .iconst 0, 1), (1694, .aload_n 0, 1), (1695, .iload 4, 2), (1697, .iconst 5, 1), (1698, .iadd, 1), (1699, .iaload, 1), (1700, .invokevirtual 208, 3), (1703, .if_icmp .eq 200, 3), (1706, .iconst 0, 1)]
theorem ld0_44 : ∀ q ∈ ltt_44, decode code q.1 = .ok q.2 := by decide +kernel
theorem ld_44 (i : Nat) {pc n : Nat} {g : Instr} (h : ltt_44[i]? = some (pc, g, n)) : decode code pc = .ok (g, n) := ld0_44 (pc, g, n) (List.mem_of_getElem? h)
def zO_write (Rel : zS → zS → Prop) : Prop := ∀ (σc σm : zS) (a1 : Int32) (a2 : Int32) (a3 : Int32) (a4 : Int32) (a5 : Int32), Rel σc σm → ∃ (r : Int32) (σc1 σm1 : zS), f_X10_write 0 a1 a2 a3 a4 a5 σc = some (r, σc1) ∧ f_X11_write 0 a1 a2 a3 a4 a5 σm = some (r, σm1) ∧ Rel σc1 σm1
theorem zll_44 : Cond.methodLink R_law 204 M_X10_write.1 ∈ zTT := zTT_in (i := 1189) (by decide +kernel) rfl
theorem zlm_44 : Cond.methodLink R_law 208 M_X11_write.1 ∈ zTT := zTT_in (i := 1972) (by decide +kernel) rfl
theorem lw_case_44 {p : Program} {e : Env} {s : State} {m : MethodId} {below : List Frame} {meth : Method} {c : Code} {XC XM : zX} {cJ : ClassId} {ob b L : Nat} {xs : Nat → Int32} {i : Nat} {σc σm : zS} {g : Nat → Int64} {cells slots : Nat} {Rel : zS → zS → Prop} (C : lC p s m meth c XC XM cJ ob b L xs) (O : zO_write Rel) (hi : i + 6 ≤ L) (hcs : cells ≤ 601024 ∧ slots ≤ 7293033) (hR : Rel σc σm) (K : ∀ (σc σm : zS), Rel σc σm → lG p e s m below meth c XC XM cJ ob b 1903 i [] σc σm g cells slots) : lG p e s m below meth c XC XM cJ ob b 1619 i [] σc σm g cells slots := by
  obtain ⟨r, σc1, σm1, h1, h2, hR1⟩ := O σc σm (xs (i + 1)) (xs (i + 2)) (xs (i + 3)) (zbo (xs (i + 4))) (xs (i + 5)) hR
  refine l_aload C (k := 1) (ld_44 0 rfl) rfl rfl ?_
  refine l_arg C 1 1626 (ld_44 1 rfl) (ld_44 2 rfl) (ld_44 3 rfl) (ld_44 4 rfl) (ld_44 5 rfl) (by decide) (by omega) rfl ?_
  refine l_arg C 2 1632 (ld_44 6 rfl) (ld_44 7 rfl) (ld_44 8 rfl) (ld_44 9 rfl) (ld_44 10 rfl) (by decide) (by omega) rfl ?_
  refine l_arg C 3 1638 (ld_44 11 rfl) (ld_44 12 rfl) (ld_44 13 rfl) (ld_44 14 rfl) (ld_44 15 rfl) (by decide) (by omega) rfl ?_
  refine l_arg C 4 1644 (ld_44 16 rfl) (ld_44 17 rfl) (ld_44 18 rfl) (ld_44 19 rfl) (ld_44 20 rfl) (by decide) (by omega) rfl ?_
  refine l_bool C 1652 (ld_44 21 rfl) (ld_44 22 rfl) (ld_44 23 rfl) (ld_44 24 rfl) rfl ?_
  refine l_arg C 5 1658 (ld_44 25 rfl) (ld_44 26 rfl) (ld_44 27 rfl) (ld_44 28 rfl) (ld_44 29 rfl) (by decide) (by omega) rfl ?_
  refine l_callC (n := 1661) (As := [.int (xs (i + 1)), .int (xs (i + 2)), .int (xs (i + 3)), .int (zbo (xs (i + 4))), .int (xs (i + 5))]) (o := (some (.int r), σc1)) C (ld_44 30 rfl) rfl zll_44 F_X10_write rfl (c_X10_write XC 40 (by omega) 0 (xs (i + 1)) (xs (i + 2)) (xs (i + 3)) (zbo (xs (i + 4))) (xs (i + 5)) σc r σc1 h1) rfl rfl (Nat.le_of_ble_eq_true rfl) hcs ?_
  refine l_aload C (k := 2) (ld_44 31 rfl) rfl rfl ?_
  refine l_arg C 1 1668 (ld_44 32 rfl) (ld_44 33 rfl) (ld_44 34 rfl) (ld_44 35 rfl) (ld_44 36 rfl) (by decide) (by omega) rfl ?_
  refine l_arg C 2 1674 (ld_44 37 rfl) (ld_44 38 rfl) (ld_44 39 rfl) (ld_44 40 rfl) (ld_44 41 rfl) (by decide) (by omega) rfl ?_
  refine l_arg C 3 1680 (ld_44 42 rfl) (ld_44 43 rfl) (ld_44 44 rfl) (ld_44 45 rfl) (ld_44 46 rfl) (by decide) (by omega) rfl ?_
  refine l_arg C 4 1686 (ld_44 47 rfl) (ld_44 48 rfl) (ld_44 49 rfl) (ld_44 50 rfl) (ld_44 51 rfl) (by decide) (by omega) rfl ?_
  refine l_bool C 1694 (ld_44 52 rfl) (ld_44 53 rfl) (ld_44 54 rfl) (ld_44 55 rfl) rfl ?_
  refine l_arg C 5 1700 (ld_44 56 rfl) (ld_44 57 rfl) (ld_44 58 rfl) (ld_44 59 rfl) (ld_44 60 rfl) (by decide) (by omega) rfl ?_
  refine l_callM (n := 1703) (As := [.int (xs (i + 1)), .int (xs (i + 2)), .int (xs (i + 3)), .int (zbo (xs (i + 4))), .int (xs (i + 5))]) (o := (some (.int r), σm1)) C (ld_44 61 rfl) rfl zlm_44 F_X11_write rfl (c_X11_write XM 40 (by omega) 0 (xs (i + 1)) (xs (i + 2)) (xs (i + 3)) (zbo (xs (i + 4))) (xs (i + 5)) σm r σm1 h2) rfl rfl (Nat.le_of_ble_eq_true rfl) hcs ?_
  exact l_eqI C (ld_44 62 rfl) (by decide) (K σc1 σm1 hR1)
def ltt_45 : List (Nat × Instr × Nat) := [(1708, .aload_n 1, 1), (1709, .aload_n 0, 1), (1710, .iload 4, 2), (1712, .iconst 1, 1), (1713, .iadd, 1), (1714, .iaload, 1), (1715, .invokevirtual 209, 3), (1718, .aload_n 2, 1), (1719, .aload_n 0, 1), (1720, .iload 4, 2), (1722, .iconst 1, 1), (1723, .iadd, 1), (1724, .iaload, 1), (1725, .invokevirtual 213, 3), (1728, .if_icmp .eq 175, 3), (1731, .iconst 0, 1)]
theorem ld0_45 : ∀ q ∈ ltt_45, decode code q.1 = .ok q.2 := by decide +kernel
theorem ld_45 (i : Nat) {pc n : Nat} {g : Instr} (h : ltt_45[i]? = some (pc, g, n)) : decode code pc = .ok (g, n) := ld0_45 (pc, g, n) (List.mem_of_getElem? h)
def zO_strike (Rel : zS → zS → Prop) : Prop := ∀ (σc σm : zS) (a1 : Int32), Rel σc σm → ∃ (r : Int32) (σc1 σm1 : zS), f_X10_strike 0 a1 σc = some (r, σc1) ∧ f_X11_strike 0 a1 σm = some (r, σm1) ∧ Rel σc1 σm1
theorem zll_45 : Cond.methodLink R_law 209 M_X10_strike.1 ∈ zTT := zTT_in (i := 1198) (by decide +kernel) rfl
theorem zlm_45 : Cond.methodLink R_law 213 M_X11_strike.1 ∈ zTT := zTT_in (i := 1980) (by decide +kernel) rfl
theorem lw_case_45 {p : Program} {e : Env} {s : State} {m : MethodId} {below : List Frame} {meth : Method} {c : Code} {XC XM : zX} {cJ : ClassId} {ob b L : Nat} {xs : Nat → Int32} {i : Nat} {σc σm : zS} {g : Nat → Int64} {cells slots : Nat} {Rel : zS → zS → Prop} (C : lC p s m meth c XC XM cJ ob b L xs) (O : zO_strike Rel) (hi : i + 6 ≤ L) (hcs : cells ≤ 601024 ∧ slots ≤ 7293033) (hR : Rel σc σm) (K : ∀ (σc σm : zS), Rel σc σm → lG p e s m below meth c XC XM cJ ob b 1903 i [] σc σm g cells slots) : lG p e s m below meth c XC XM cJ ob b 1708 i [] σc σm g cells slots := by
  obtain ⟨r, σc1, σm1, h1, h2, hR1⟩ := O σc σm (xs (i + 1)) hR
  refine l_aload C (k := 1) (ld_45 0 rfl) rfl rfl ?_
  refine l_arg C 1 1715 (ld_45 1 rfl) (ld_45 2 rfl) (ld_45 3 rfl) (ld_45 4 rfl) (ld_45 5 rfl) (by decide) (by omega) rfl ?_
  refine l_callC (n := 1718) (As := [.int (xs (i + 1))]) (o := (some (.int r), σc1)) C (ld_45 6 rfl) rfl zll_45 F_X10_strike rfl (c_X10_strike XC 40 (by omega) 0 (xs (i + 1)) σc r σc1 h1) rfl rfl (Nat.le_of_ble_eq_true rfl) hcs ?_
  refine l_aload C (k := 2) (ld_45 7 rfl) rfl rfl ?_
  refine l_arg C 1 1725 (ld_45 8 rfl) (ld_45 9 rfl) (ld_45 10 rfl) (ld_45 11 rfl) (ld_45 12 rfl) (by decide) (by omega) rfl ?_
  refine l_callM (n := 1728) (As := [.int (xs (i + 1))]) (o := (some (.int r), σm1)) C (ld_45 13 rfl) rfl zlm_45 F_X11_strike rfl (c_X11_strike XM 40 (by omega) 0 (xs (i + 1)) σm r σm1 h2) rfl rfl (Nat.le_of_ble_eq_true rfl) hcs ?_
  exact l_eqI C (ld_45 14 rfl) (by decide) (K σc1 σm1 hR1)
def ltt_46 : List (Nat × Instr × Nat) := [(1733, .aload_n 1, 1), (1734, .aload_n 0, 1), (1735, .iload 4, 2), (1737, .iconst 1, 1), (1738, .iadd, 1), (1739, .iaload, 1), (1740, .invokevirtual 214, 3), (1743, .aload_n 2, 1), (1744, .aload_n 0, 1), (1745, .iload 4, 2), (1747, .iconst 1, 1), (1748, .iadd, 1), (1749, .iaload, 1), (1750, .invokevirtual 217, 3), (1753, .if_icmp .eq 150, 3), (1756, .iconst 0, 1)]
theorem ld0_46 : ∀ q ∈ ltt_46, decode code q.1 = .ok q.2 := by decide +kernel
theorem ld_46 (i : Nat) {pc n : Nat} {g : Instr} (h : ltt_46[i]? = some (pc, g, n)) : decode code pc = .ok (g, n) := ld0_46 (pc, g, n) (List.mem_of_getElem? h)
def zO_fold (Rel : zS → zS → Prop) : Prop := ∀ (σc σm : zS) (a1 : Int32), Rel σc σm → ∃ (r : Int32) (σc1 σm1 : zS), f_X10_fold 0 a1 σc = some (r, σc1) ∧ f_X11_fold 0 a1 σm = some (r, σm1) ∧ Rel σc1 σm1
theorem zll_46 : Cond.methodLink R_law 214 M_X10_fold.1 ∈ zTT := zTT_in (i := 1202) (by decide +kernel) rfl
theorem zlm_46 : Cond.methodLink R_law 217 M_X11_fold.1 ∈ zTT := zTT_in (i := 1988) (by decide +kernel) rfl
theorem lw_case_46 {p : Program} {e : Env} {s : State} {m : MethodId} {below : List Frame} {meth : Method} {c : Code} {XC XM : zX} {cJ : ClassId} {ob b L : Nat} {xs : Nat → Int32} {i : Nat} {σc σm : zS} {g : Nat → Int64} {cells slots : Nat} {Rel : zS → zS → Prop} (C : lC p s m meth c XC XM cJ ob b L xs) (O : zO_fold Rel) (hi : i + 6 ≤ L) (hcs : cells ≤ 601024 ∧ slots ≤ 7293033) (hR : Rel σc σm) (K : ∀ (σc σm : zS), Rel σc σm → lG p e s m below meth c XC XM cJ ob b 1903 i [] σc σm g cells slots) : lG p e s m below meth c XC XM cJ ob b 1733 i [] σc σm g cells slots := by
  obtain ⟨r, σc1, σm1, h1, h2, hR1⟩ := O σc σm (xs (i + 1)) hR
  refine l_aload C (k := 1) (ld_46 0 rfl) rfl rfl ?_
  refine l_arg C 1 1740 (ld_46 1 rfl) (ld_46 2 rfl) (ld_46 3 rfl) (ld_46 4 rfl) (ld_46 5 rfl) (by decide) (by omega) rfl ?_
  refine l_callC (n := 1743) (As := [.int (xs (i + 1))]) (o := (some (.int r), σc1)) C (ld_46 6 rfl) rfl zll_46 F_X10_fold rfl (c_X10_fold XC 40 (by omega) 0 (xs (i + 1)) σc r σc1 h1) rfl rfl (Nat.le_of_ble_eq_true rfl) hcs ?_
  refine l_aload C (k := 2) (ld_46 7 rfl) rfl rfl ?_
  refine l_arg C 1 1750 (ld_46 8 rfl) (ld_46 9 rfl) (ld_46 10 rfl) (ld_46 11 rfl) (ld_46 12 rfl) (by decide) (by omega) rfl ?_
  refine l_callM (n := 1753) (As := [.int (xs (i + 1))]) (o := (some (.int r), σm1)) C (ld_46 13 rfl) rfl zlm_46 F_X11_fold rfl (c_X11_fold XM 40 (by omega) 0 (xs (i + 1)) σm r σm1 h2) rfl rfl (Nat.le_of_ble_eq_true rfl) hcs ?_
  exact l_eqI C (ld_46 14 rfl) (by decide) (K σc1 σm1 hR1)
def ltt_47 : List (Nat × Instr × Nat) := [(1758, .aload_n 1, 1), (1759, .invokevirtual 218, 3), (1762, .aload_n 2, 1), (1763, .invokevirtual 222, 3), (1766, .if_icmp .eq 137, 3), (1769, .iconst 0, 1)]
theorem ld0_47 : ∀ q ∈ ltt_47, decode code q.1 = .ok q.2 := by decide +kernel
theorem ld_47 (i : Nat) {pc n : Nat} {g : Instr} (h : ltt_47[i]? = some (pc, g, n)) : decode code pc = .ok (g, n) := ld0_47 (pc, g, n) (List.mem_of_getElem? h)
def zO_undo (Rel : zS → zS → Prop) : Prop := ∀ (σc σm : zS), Rel σc σm → ∃ (r : Int32) (σc1 σm1 : zS), f_X10_undo 0  σc = some (r, σc1) ∧ f_X11_undo 0  σm = some (r, σm1) ∧ Rel σc1 σm1
theorem zll_47 : Cond.methodLink R_law 218 M_X10_undo.1 ∈ zTT := zTT_in (i := 1206) (by decide +kernel) rfl
theorem zlm_47 : Cond.methodLink R_law 222 M_X11_undo.1 ∈ zTT := zTT_in (i := 1992) (by decide +kernel) rfl
theorem lw_case_47 {p : Program} {e : Env} {s : State} {m : MethodId} {below : List Frame} {meth : Method} {c : Code} {XC XM : zX} {cJ : ClassId} {ob b L : Nat} {xs : Nat → Int32} {i : Nat} {σc σm : zS} {g : Nat → Int64} {cells slots : Nat} {Rel : zS → zS → Prop} (C : lC p s m meth c XC XM cJ ob b L xs) (O : zO_undo Rel) (hi : i + 6 ≤ L) (hcs : cells ≤ 601024 ∧ slots ≤ 7293033) (hR : Rel σc σm) (K : ∀ (σc σm : zS), Rel σc σm → lG p e s m below meth c XC XM cJ ob b 1903 i [] σc σm g cells slots) : lG p e s m below meth c XC XM cJ ob b 1758 i [] σc σm g cells slots := by
  obtain ⟨r, σc1, σm1, h1, h2, hR1⟩ := O σc σm  hR
  refine l_aload C (k := 1) (ld_47 0 rfl) rfl rfl ?_
  refine l_callC (n := 1762) (As := []) (o := (some (.int r), σc1)) C (ld_47 1 rfl) rfl zll_47 F_X10_undo rfl (c_X10_undo XC 40 (by omega) 0  σc r σc1 h1) rfl rfl (Nat.le_of_ble_eq_true rfl) hcs ?_
  refine l_aload C (k := 2) (ld_47 2 rfl) rfl rfl ?_
  refine l_callM (n := 1766) (As := []) (o := (some (.int r), σm1)) C (ld_47 3 rfl) rfl zlm_47 F_X11_undo rfl (c_X11_undo XM 40 (by omega) 0  σm r σm1 h2) rfl rfl (Nat.le_of_ble_eq_true rfl) hcs ?_
  exact l_eqI C (ld_47 4 rfl) (by decide) (K σc1 σm1 hR1)
def ltt_48 : List (Nat × Instr × Nat) := [(1771, .aload_n 1, 1), (1772, .invokevirtual 223, 3), (1775, .aload_n 2, 1), (1776, .invokevirtual 226, 3), (1779, .if_icmp .eq 124, 3), (1782, .iconst 0, 1)]
theorem ld0_48 : ∀ q ∈ ltt_48, decode code q.1 = .ok q.2 := by decide +kernel
theorem ld_48 (i : Nat) {pc n : Nat} {g : Instr} (h : ltt_48[i]? = some (pc, g, n)) : decode code pc = .ok (g, n) := ld0_48 (pc, g, n) (List.mem_of_getElem? h)
def zO_image (Rel : zS → zS → Prop) : Prop := ∀ (σc σm : zS), Rel σc σm → ∃ (r : Int32) (σc1 σm1 : zS), f_X10_image 0  σc = some (r, σc1) ∧ f_X11_image 0  σm = some (r, σm1) ∧ Rel σc1 σm1
theorem zll_48 : Cond.methodLink R_law 223 M_X10_image.1 ∈ zTT := zTT_in (i := 1210) (by decide +kernel) rfl
theorem zlm_48 : Cond.methodLink R_law 226 M_X11_image.1 ∈ zTT := zTT_in (i := 1996) (by decide +kernel) rfl
theorem lw_case_48 {p : Program} {e : Env} {s : State} {m : MethodId} {below : List Frame} {meth : Method} {c : Code} {XC XM : zX} {cJ : ClassId} {ob b L : Nat} {xs : Nat → Int32} {i : Nat} {σc σm : zS} {g : Nat → Int64} {cells slots : Nat} {Rel : zS → zS → Prop} (C : lC p s m meth c XC XM cJ ob b L xs) (O : zO_image Rel) (hi : i + 6 ≤ L) (hcs : cells ≤ 601024 ∧ slots ≤ 7293033) (hR : Rel σc σm) (K : ∀ (σc σm : zS), Rel σc σm → lG p e s m below meth c XC XM cJ ob b 1903 i [] σc σm g cells slots) : lG p e s m below meth c XC XM cJ ob b 1771 i [] σc σm g cells slots := by
  obtain ⟨r, σc1, σm1, h1, h2, hR1⟩ := O σc σm  hR
  refine l_aload C (k := 1) (ld_48 0 rfl) rfl rfl ?_
  refine l_callC (n := 1775) (As := []) (o := (some (.int r), σc1)) C (ld_48 1 rfl) rfl zll_48 F_X10_image rfl (c_X10_image XC 40 (by omega) 0  σc r σc1 h1) rfl rfl (Nat.le_of_ble_eq_true rfl) hcs ?_
  refine l_aload C (k := 2) (ld_48 2 rfl) rfl rfl ?_
  refine l_callM (n := 1779) (As := []) (o := (some (.int r), σm1)) C (ld_48 3 rfl) rfl zlm_48 F_X11_image rfl (c_X11_image XM 40 (by omega) 0  σm r σm1 h2) rfl rfl (Nat.le_of_ble_eq_true rfl) hcs ?_
  exact l_eqI C (ld_48 4 rfl) (by decide) (K σc1 σm1 hR1)
def ltt_49 : List (Nat × Instr × Nat) := [(1784, .aload_n 1, 1), (1785, .aload_n 0, 1), (1786, .iload 4, 2), (1788, .iconst 1, 1), (1789, .iadd, 1), (1790, .iaload, 1), (1791, .invokevirtual 227, 3), (1794, .aload_n 2, 1), (1795, .aload_n 0, 1), (1796, .iload 4, 2), (1798, .iconst 1, 1), (1799, .iadd, 1), (1800, .iaload, 1), (1801, .invokevirtual 230, 3), (1804, .if_icmp .eq 99, 3), (1807, .iconst 0, 1)]
theorem ld0_49 : ∀ q ∈ ltt_49, decode code q.1 = .ok q.2 := by decide +kernel
theorem ld_49 (i : Nat) {pc n : Nat} {g : Instr} (h : ltt_49[i]? = some (pc, g, n)) : decode code pc = .ok (g, n) := ld0_49 (pc, g, n) (List.mem_of_getElem? h)
def zO_back (Rel : zS → zS → Prop) : Prop := ∀ (σc σm : zS) (a1 : Int32), Rel σc σm → ∃ (r : Int32) (σc1 σm1 : zS), f_X10_back 0 a1 σc = some (r, σc1) ∧ f_X11_back 0 a1 σm = some (r, σm1) ∧ Rel σc1 σm1
theorem zll_49 : Cond.methodLink R_law 227 M_X10_back.1 ∈ zTT := zTT_in (i := 1214) (by decide +kernel) rfl
theorem zlm_49 : Cond.methodLink R_law 230 M_X11_back.1 ∈ zTT := zTT_in (i := 2000) (by decide +kernel) rfl
theorem lw_case_49 {p : Program} {e : Env} {s : State} {m : MethodId} {below : List Frame} {meth : Method} {c : Code} {XC XM : zX} {cJ : ClassId} {ob b L : Nat} {xs : Nat → Int32} {i : Nat} {σc σm : zS} {g : Nat → Int64} {cells slots : Nat} {Rel : zS → zS → Prop} (C : lC p s m meth c XC XM cJ ob b L xs) (O : zO_back Rel) (hi : i + 6 ≤ L) (hcs : cells ≤ 601024 ∧ slots ≤ 7293033) (hR : Rel σc σm) (K : ∀ (σc σm : zS), Rel σc σm → lG p e s m below meth c XC XM cJ ob b 1903 i [] σc σm g cells slots) : lG p e s m below meth c XC XM cJ ob b 1784 i [] σc σm g cells slots := by
  obtain ⟨r, σc1, σm1, h1, h2, hR1⟩ := O σc σm (xs (i + 1)) hR
  refine l_aload C (k := 1) (ld_49 0 rfl) rfl rfl ?_
  refine l_arg C 1 1791 (ld_49 1 rfl) (ld_49 2 rfl) (ld_49 3 rfl) (ld_49 4 rfl) (ld_49 5 rfl) (by decide) (by omega) rfl ?_
  refine l_callC (n := 1794) (As := [.int (xs (i + 1))]) (o := (some (.int r), σc1)) C (ld_49 6 rfl) rfl zll_49 F_X10_back rfl (c_X10_back XC 40 (by omega) 0 (xs (i + 1)) σc r σc1 h1) rfl rfl (Nat.le_of_ble_eq_true rfl) hcs ?_
  refine l_aload C (k := 2) (ld_49 7 rfl) rfl rfl ?_
  refine l_arg C 1 1801 (ld_49 8 rfl) (ld_49 9 rfl) (ld_49 10 rfl) (ld_49 11 rfl) (ld_49 12 rfl) (by decide) (by omega) rfl ?_
  refine l_callM (n := 1804) (As := [.int (xs (i + 1))]) (o := (some (.int r), σm1)) C (ld_49 13 rfl) rfl zlm_49 F_X11_back rfl (c_X11_back XM 40 (by omega) 0 (xs (i + 1)) σm r σm1 h2) rfl rfl (Nat.le_of_ble_eq_true rfl) hcs ?_
  exact l_eqI C (ld_49 14 rfl) (by decide) (K σc1 σm1 hR1)
def ltt_51 : List (Nat × Instr × Nat) := [(1865, .aload_n 1, 1), (1866, .aload_n 0, 1), (1867, .iload 4, 2), (1869, .iconst 1, 1), (1870, .iadd, 1), (1871, .iaload, 1), (1872, .invokevirtual 240, 3), (1875, .aload_n 2, 1), (1876, .aload_n 0, 1), (1877, .iload 4, 2), (1879, .iconst 1, 1), (1880, .iadd, 1), (1881, .iaload, 1), (1882, .invokevirtual 243, 3), (1885, .if_icmp .eq 18, 3), (1888, .iconst 0, 1)]
theorem ld0_51 : ∀ q ∈ ltt_51, decode code q.1 = .ok q.2 := by decide +kernel
theorem ld_51 (i : Nat) {pc n : Nat} {g : Instr} (h : ltt_51[i]? = some (pc, g, n)) : decode code pc = .ok (g, n) := ld0_51 (pc, g, n) (List.mem_of_getElem? h)
def zO_size (Rel : zS → zS → Prop) : Prop := ∀ (σc σm : zS) (a1 : Int32), Rel σc σm → ∃ (r : Int32) (σc1 σm1 : zS), f_X10_size 0 a1 σc = some (r, σc1) ∧ f_X11_size 0 a1 σm = some (r, σm1) ∧ Rel σc1 σm1
theorem zll_51 : Cond.methodLink R_law 240 M_X10_size.1 ∈ zTT := zTT_in (i := 1218) (by decide +kernel) rfl
theorem zlm_51 : Cond.methodLink R_law 243 M_X11_size.1 ∈ zTT := zTT_in (i := 2008) (by decide +kernel) rfl
theorem lw_case_51 {p : Program} {e : Env} {s : State} {m : MethodId} {below : List Frame} {meth : Method} {c : Code} {XC XM : zX} {cJ : ClassId} {ob b L : Nat} {xs : Nat → Int32} {i : Nat} {σc σm : zS} {g : Nat → Int64} {cells slots : Nat} {Rel : zS → zS → Prop} (C : lC p s m meth c XC XM cJ ob b L xs) (O : zO_size Rel) (hi : i + 6 ≤ L) (hcs : cells ≤ 601024 ∧ slots ≤ 7293033) (hR : Rel σc σm) (K : ∀ (σc σm : zS), Rel σc σm → lG p e s m below meth c XC XM cJ ob b 1903 i [] σc σm g cells slots) : lG p e s m below meth c XC XM cJ ob b 1865 i [] σc σm g cells slots := by
  obtain ⟨r, σc1, σm1, h1, h2, hR1⟩ := O σc σm (xs (i + 1)) hR
  refine l_aload C (k := 1) (ld_51 0 rfl) rfl rfl ?_
  refine l_arg C 1 1872 (ld_51 1 rfl) (ld_51 2 rfl) (ld_51 3 rfl) (ld_51 4 rfl) (ld_51 5 rfl) (by decide) (by omega) rfl ?_
  refine l_callC (n := 1875) (As := [.int (xs (i + 1))]) (o := (some (.int r), σc1)) C (ld_51 6 rfl) rfl zll_51 F_X10_size rfl (c_X10_size XC 40 0 (xs (i + 1)) σc r σc1 h1) rfl rfl (Nat.le_of_ble_eq_true rfl) hcs ?_
  refine l_aload C (k := 2) (ld_51 7 rfl) rfl rfl ?_
  refine l_arg C 1 1882 (ld_51 8 rfl) (ld_51 9 rfl) (ld_51 10 rfl) (ld_51 11 rfl) (ld_51 12 rfl) (by decide) (by omega) rfl ?_
  refine l_callM (n := 1885) (As := [.int (xs (i + 1))]) (o := (some (.int r), σm1)) C (ld_51 13 rfl) rfl zlm_51 F_X11_size rfl (c_X11_size XM 40 (by omega) 0 (xs (i + 1)) σm r σm1 h2) rfl rfl (Nat.le_of_ble_eq_true rfl) hcs ?_
  exact l_eqI C (ld_51 14 rfl) (by decide) (K σc1 σm1 hR1)
def ltt_52 : List (Nat × Instr × Nat) := [(1890, .aload_n 1, 1), (1891, .invokevirtual 244, 3), (1894, .aload_n 2, 1), (1895, .invokevirtual 247, 3), (1898, .if_icmp .eq 5, 3), (1901, .iconst 0, 1)]
theorem ld0_52 : ∀ q ∈ ltt_52, decode code q.1 = .ok q.2 := by decide +kernel
theorem ld_52 (i : Nat) {pc n : Nat} {g : Instr} (h : ltt_52[i]? = some (pc, g, n)) : decode code pc = .ok (g, n) := ld0_52 (pc, g, n) (List.mem_of_getElem? h)
def zO_trouble (Rel : zS → zS → Prop) : Prop := ∀ (σc σm : zS), Rel σc σm → ∃ (r : Int32) (σc1 σm1 : zS), f_X10_trouble 0  σc = some (r, σc1) ∧ f_X11_trouble 0  σm = some (r, σm1) ∧ Rel σc1 σm1
theorem zll_52 : Cond.methodLink R_law 244 M_X10_trouble.1 ∈ zTT := zTT_in (i := 1222) (by decide +kernel) rfl
theorem zlm_52 : Cond.methodLink R_law 247 M_X11_trouble.1 ∈ zTT := zTT_in (i := 2012) (by decide +kernel) rfl
theorem lw_case_52 {p : Program} {e : Env} {s : State} {m : MethodId} {below : List Frame} {meth : Method} {c : Code} {XC XM : zX} {cJ : ClassId} {ob b L : Nat} {xs : Nat → Int32} {i : Nat} {σc σm : zS} {g : Nat → Int64} {cells slots : Nat} {Rel : zS → zS → Prop} (C : lC p s m meth c XC XM cJ ob b L xs) (O : zO_trouble Rel) (hi : i + 6 ≤ L) (hcs : cells ≤ 601024 ∧ slots ≤ 7293033) (hR : Rel σc σm) (K : ∀ (σc σm : zS), Rel σc σm → lG p e s m below meth c XC XM cJ ob b 1903 i [] σc σm g cells slots) : lG p e s m below meth c XC XM cJ ob b 1890 i [] σc σm g cells slots := by
  obtain ⟨r, σc1, σm1, h1, h2, hR1⟩ := O σc σm  hR
  refine l_aload C (k := 1) (ld_52 0 rfl) rfl rfl ?_
  refine l_callC (n := 1894) (As := []) (o := (some (.int r), σc1)) C (ld_52 1 rfl) rfl zll_52 F_X10_trouble rfl (c_X10_trouble XC 40 0  σc r σc1 h1) rfl rfl (Nat.le_of_ble_eq_true rfl) hcs ?_
  refine l_aload C (k := 2) (ld_52 2 rfl) rfl rfl ?_
  refine l_callM (n := 1898) (As := []) (o := (some (.int r), σm1)) C (ld_52 3 rfl) rfl zlm_52 F_X11_trouble rfl (c_X11_trouble XM 40 0  σm r σm1 h2) rfl rfl (Nat.le_of_ble_eq_true rfl) hcs ?_
  exact l_eqI C (ld_52 4 rfl) (by decide) (K σc1 σm1 hR1)
