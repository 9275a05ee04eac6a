/-! the law's loop -/
def lofs : Array Int := #[228, 301, 326, 339, 352, 389, 426, 463, 488, 513, 526, 539, 552, 589, 614, 639, 652, 677, 690, 743, 808, 845, 882, 919, 944, 981, 994, 1007, 1020, 1033, 1058, 1071, 1108, 1145, 1158, 1171, 1184, 1293, 1318, 1343, 1397, 1451, 1493, 1542, 1579, 1668, 1693, 1718, 1731, 1744, 1769, 1825, 1850]
def ltt_l : List (Nat × Instr × Nat) := [(23, .iload 4, 2), (25, .aload_n 0, 1), (26, .arraylength, 1), (27, .bipush 6, 2), (29, .isub, 1), (30, .if_icmp .gt 1879, 3), (33, .aload_n 0, 1), (34, .iload 4, 2), (36, .iaload, 1), (37, .bipush 63, 2), (39, .iand, 1), (1903, .iinc 4 6, 3), (1906, .goto (-1883), 3), (1909, .iconst 1, 1), (1910, .ireturn, 1)]
theorem ld0_l : ∀ q ∈ ltt_l, decode code q.1 = .ok q.2 := by decide +kernel
theorem ld_l (i : Nat) {pc n : Nat} {g : Instr} (h : ltt_l[i]? = some (pc, g, n)) : decode code pc = .ok (g, n) := ld0_l (pc, g, n) (List.mem_of_getElem? h)
theorem ld_sw : decode code 40 = .ok (.tableswitch 1863 0 52 lofs, 228) := by decide +kernel
theorem sub6 : ∀ l, l < 6 → nI l - 6 < 0 := by decide
theorem nI_bv (x : Int32) : nI x.toBitVec.toNat = x := by
  apply Int32.toBitVec_inj.mp
  show BitVec.ofNat 32 x.toBitVec.toNat = x.toBitVec
  simp
theorem and63 (x : Int32) : ∃ k, k < 64 ∧ x &&& 63 = nI k := by
  refine ⟨x.toBitVec.toNat &&& 63, Nat.lt_of_le_of_lt Nat.and_le_right (by decide), ?_⟩
  have := nI_and x.toBitVec.toNat 63
  rw [nI_bv] at this
  exact this
section LP
variable {p : Program} {e : Env} {s : State} {m : MethodId} {below : List Frame} {meth : Method} {c : Code} {XC XM : zX} {cJ : ClassId} {ob b L : Nat} {xs : Nat → Int32}
def H50 (p : Program) (e : Env) (s : State) (m : MethodId) (below : List Frame) (meth : Method) (c : Code) (XC XM : zX) (cJ : ClassId) (ob b L : Nat) : Prop := ∀ (i : Nat) (σc σm : zS) (g : Nat → Int64) (cells slots : Nat), i + 6 ≤ L → cells + 1 ≤ 601024 → slots + 6 ≤ 7293033 → Rel σc σm → (∀ (σc σm : zS) (g : Nat → Int64) (cells' slots' : Nat), Rel σc σm → cells' ≤ cells + 1 → slots' ≤ slots + 6 → lG p e s m below meth c XC XM cJ ob b 1903 i [] σc σm g cells' slots') → lG p e s m below meth c XC XM cJ ob b 1809 i [] σc σm g cells slots
theorem l_turn (C : lC p s m meth c XC XM cJ ob b L xs) {i : Nat} {σc σm : zS} {g : Nat → Int64} {cells slots : Nat} (h : lG p e s m below meth c XC XM cJ ob b 23 (i + 6) [] σc σm g cells slots) : lG p e s m below meth c XC XM cJ ob b 1903 i [] σc σm g cells slots := by
  intro H locs ls hI hl
  refine lv_iinc (k := 4) (v := nI (i + 6)) (lv' := (4, Value.int (nI (i + 6))) :: [(0, .ref b), (1, .ref (za XC 0)), (2, .ref (za XM 0)), (3, .ref ob)]) C.1 C.2.1 (ld_l 11 rfl) hl rfl (by show nI i + nI 6 = _; rw [nI_add]) (by decide) rfl (fun ls' hl' => ?_)
  refine lv_goto (tgt := 23) C.1 C.2.1 (ld_l 12 rfl) (by decide) ?_
  exact h H locs ls' hI ⟨hl'.1, hl'.2.1, fun q hq => hl'.2.2 q (by
    simp only [List.mem_cons, List.not_mem_nil, or_false] at hq ⊢
    rcases hq with z | z | z | z | z
    · exact Or.inr (Or.inl z)
    · exact Or.inr (Or.inr (Or.inl z))
    · exact Or.inr (Or.inr (Or.inr (Or.inl z)))
    · exact Or.inr (Or.inr (Or.inr (Or.inr z)))
    · exact Or.inl z)⟩
theorem l_done (C : lC p s m meth c XC XM cJ ob b L xs) {i : Nat} {σc σm : zS} {g : Nat → Int64} {cells slots : Nat} (hcs : cells ≤ 601024 ∧ slots ≤ 7293033) : lG p e s m below meth c XC XM cJ ob b 1909 i [] σc σm g cells slots := by
  intro H locs ls hI hl
  obtain ⟨hx, hb, hr, hml, hown, hts, hX, hbl, hlk, hL, -⟩ := C
  refine lv_iconst (v := 1) hx hb (ld_l 13 rfl) (by decide) ?_
  refine va_forget hI.2.2.2.2.2 (W.widen hcs.1 hcs.2 ?_)
  exact lw_ret hx hb hr hlk (ld_l 14 rfl)
theorem l_head23 (C : lC p s m meth c XC XM cJ ob b L xs) {i : Nat} (hi : i ≤ 3078) {σc σm : zS} {g : Nat → Int64} {cells slots : Nat} (kt : lG p e s m below meth c XC XM cJ ob b 1909 i [] σc σm g cells slots) (kf : i + 6 ≤ L → lG p e s m below meth c XC XM cJ ob b 40 i [.int (xs i &&& 63)] σc σm g cells slots) : lG p e s m below meth c XC XM cJ ob b 23 i [] σc σm g cells slots := by
  intro H locs ls hI hl
  obtain ⟨hx, hb, hr, hml, hown, hts, hX, hbl, hlk, hL, -⟩ := C
  refine lv_iload hx hb (ld_l 0 rfl) (lv_at hl 4 rfl) ?_
  refine lv_aload_n hx hb (ld_l 1 rfl) rfl (lv_at hl 0 rfl) ?_
  refine va_slen hx hb hX hbl (Nat.not_le.mpr hbl) hI.2.2.2 (ld_l 2 rfl) ?_
  refine lv_bipush (v := 6) hx hb (ld_l 3 rfl) (by decide) ?_
  refine lv_isub hx hb (ld_l 4 rfl) ?_
  refine lv_icmp_gt (tgt := 1909) hx hb (ld_l 5 rfl) (by decide) (fun _ => kt H locs ls hI hl) (fun hc => ?_)
  have hc : ¬ nI L - 6 < nI i := hc
  have hiL : i + 6 ≤ L := by
    by_cases h6 : L < 6
    · exact absurd (Int32.lt_of_lt_of_le (sub6 L h6) (show (0 : Int32) ≤ nI i from (nI_le (Nat.zero_le i) (by omega) : nI 0 ≤ nI i))) hc
    · have e6 : nI L - 6 = nI (L - 6) := nI_sub (a := L) (b := 6) (by omega)
      rw [e6] at hc
      by_cases z : L - 6 < i
      · exact absurd (nI_lt z (by omega)) hc
      · omega
  refine lv_aload_n hx hb (ld_l 6 rfl) rfl (lv_at hl 0 rfl) ?_
  refine lv_iload hx hb (ld_l 7 rfl) (lv_at hl 4 rfl) ?_
  refine va_sld hx hb hX hbl (Nat.not_le.mpr hbl) hI.2.2.2 (vp_in_nI (by omega) (by omega)) (ld_l 8 rfl) ?_
  rw [nI_clamp (by omega)]
  refine lv_bipush (v := 63) hx hb (ld_l 9 rfl) (by decide) ?_
  refine lv_iand hx hb (ld_l 10 rfl) ?_
  exact kf hiL H locs ls hI hl
theorem l_sw (C : lC p s m meth c XC XM cJ ob b L xs) (h50 : H50 p e s m below meth c XC XM cJ ob b L) {i : Nat} (hi : i + 6 ≤ L) {σc σm : zS} {g : Nat → Int64} {cells slots : Nat} (hcs : cells + 1 ≤ 601024 ∧ slots + 6 ≤ 7293033) (hR : Rel σc σm) (K : ∀ (σc σm : zS) (g : Nat → Int64) (cells' slots' : Nat), Rel σc σm → cells' ≤ cells + 1 → slots' ≤ slots + 6 → lG p e s m below meth c XC XM cJ ob b 1903 i [] σc σm g cells' slots') : ∀ k, k < 64 → lG p e s m below meth c XC XM cJ ob b 40 i [.int (nI k)] σc σm g cells slots := by
  have hcs' : cells ≤ 601024 ∧ slots ≤ 7293033 := ⟨by omega, by omega⟩
  have K' : ∀ (σc σm : zS), Rel σc σm → lG p e s m below meth c XC XM cJ ob b 1903 i [] σc σm g cells slots := fun σc σm h => K σc σm g cells slots h (by omega) (by omega)
  intro k hk H locs ls hI hl
  by_cases h52 : 52 < k
  · exact lv_tableOut (tgt := 1903) C.1 C.2.1 ld_sw (Or.inr (by rw [nI_toInt (by omega)]; omega)) (by decide) (K' σc σm hR H locs ls hI hl)
  · match k, hk, h52 with
    | 0, _, _ => exact lv_tableIn (off := 228) (tgt := 268) C.1 C.2.1 ld_sw (by decide) (by decide) rfl (by decide) (lw_case_0 C O_feed hi hcs' hR K' H locs ls hI hl)
    | 1, _, _ => exact lv_tableIn (off := 301) (tgt := 341) C.1 C.2.1 ld_sw (by decide) (by decide) rfl (by decide) (lw_case_1 C O_letter hi hcs' hR K' H locs ls hI hl)
    | 2, _, _ => exact lv_tableIn (off := 326) (tgt := 366) C.1 C.2.1 ld_sw (by decide) (by decide) rfl (by decide) (lw_case_2 C O_fault hi hcs' hR K' H locs ls hI hl)
    | 3, _, _ => exact lv_tableIn (off := 339) (tgt := 379) C.1 C.2.1 ld_sw (by decide) (by decide) rfl (by decide) (lw_case_3 C O_where hi hcs' hR K' H locs ls hI hl)
    | 4, _, _ => exact lv_tableIn (off := 352) (tgt := 392) C.1 C.2.1 ld_sw (by decide) (by decide) rfl (by decide) (lw_case_4 C O_place hi hcs' hR K' H locs ls hI hl)
    | 5, _, _ => exact lv_tableIn (off := 389) (tgt := 429) C.1 C.2.1 ld_sw (by decide) (by decide) rfl (by decide) (lw_case_5 C O_hand hi hcs' hR K' H locs ls hI hl)
    | 6, _, _ => exact lv_tableIn (off := 426) (tgt := 466) C.1 C.2.1 ld_sw (by decide) (by decide) rfl (by decide) (lw_case_6 C O_line hi hcs' hR K' H locs ls hI hl)
    | 7, _, _ => exact lv_tableIn (off := 463) (tgt := 503) C.1 C.2.1 ld_sw (by decide) (by decide) rfl (by decide) (lw_case_7 C O_done hi hcs' hR K' H locs ls hI hl)
    | 8, _, _ => exact lv_tableIn (off := 488) (tgt := 528) C.1 C.2.1 ld_sw (by decide) (by decide) rfl (by decide) (lw_case_8 C O_stands hi hcs' hR K' H locs ls hI hl)
    | 9, _, _ => exact lv_tableIn (off := 513) (tgt := 553) C.1 C.2.1 ld_sw (by decide) (by decide) rfl (by decide) (lw_case_9 C O_allDone hi hcs' hR K' H locs ls hI hl)
    | 10, _, _ => exact lv_tableIn (off := 526) (tgt := 566) C.1 C.2.1 ld_sw (by decide) (by decide) rfl (by decide) (lw_case_10 C O_ruler hi hcs' hR K' H locs ls hI hl)
    | 11, _, _ => exact lv_tableIn (off := 539) (tgt := 579) C.1 C.2.1 ld_sw (by decide) (by decide) rfl (by decide) (lw_case_11 C O_power hi hcs' hR K' H locs ls hI hl)
    | 12, _, _ => exact lv_tableIn (off := 552) (tgt := 592) C.1 C.2.1 ld_sw (by decide) (by decide) rfl (by decide) (lw_case_12 C O_doneBy hi hcs' hR K' H locs ls hI hl)
    | 13, _, _ => exact lv_tableIn (off := 589) (tgt := 629) C.1 C.2.1 ld_sw (by decide) (by decide) rfl (by decide) (lw_case_13 C O_changes hi hcs' hR K' H locs ls hI hl)
    | 14, _, _ => exact lv_tableIn (off := 614) (tgt := 654) C.1 C.2.1 ld_sw (by decide) (by decide) rfl (by decide) (lw_case_14 C O_since hi hcs' hR K' H locs ls hI hl)
    | 15, _, _ => exact lv_tableIn (off := 639) (tgt := 679) C.1 C.2.1 ld_sw (by decide) (by decide) rfl (by decide) (lw_case_15 C O_idle hi hcs' hR K' H locs ls hI hl)
    | 16, _, _ => exact lv_tableIn (off := 652) (tgt := 692) C.1 C.2.1 ld_sw (by decide) (by decide) rfl (by decide) (lw_case_16 C O_turn hi hcs' hR K' H locs ls hI hl)
    | 17, _, _ => exact lv_tableIn (off := 677) (tgt := 717) C.1 C.2.1 ld_sw (by decide) (by decide) rfl (by decide) (lw_case_17 C O_weakest hi hcs' hR K' H locs ls hI hl)
    | 18, _, _ => exact lv_tableIn (off := 690) (tgt := 730) C.1 C.2.1 ld_sw (by decide) (by decide) rfl (by decide) (lw_case_18 C O_holds hi hcs' hR K' H locs ls hI hl)
    | 19, _, _ => exact lv_tableIn (off := 743) (tgt := 783) C.1 C.2.1 ld_sw (by decide) (by decide) rfl (by decide) (lw_case_19 C O_doneIf hi hcs' hR K' H locs ls hI hl)
    | 20, _, _ => exact lv_tableIn (off := 808) (tgt := 848) C.1 C.2.1 ld_sw (by decide) (by decide) rfl (by decide) (lw_case_20 C O_wins hi hcs' hR K' H locs ls hI hl)
    | 21, _, _ => exact lv_tableIn (off := 845) (tgt := 885) C.1 C.2.1 ld_sw (by decide) (by decide) rfl (by decide) (lw_case_21 C O_winsBy hi hcs' hR K' H locs ls hI hl)
    | 22, _, _ => exact lv_tableIn (off := 882) (tgt := 922) C.1 C.2.1 ld_sw (by decide) (by decide) rfl (by decide) (lw_case_22 C O_outranks hi hcs' hR K' H locs ls hI hl)
    | 23, _, _ => exact lv_tableIn (off := 919) (tgt := 959) C.1 C.2.1 ld_sw (by decide) (by decide) rfl (by decide) (lw_case_23 C O_ring hi hcs' hR K' H locs ls hI hl)
    | 24, _, _ => exact lv_tableIn (off := 944) (tgt := 984) C.1 C.2.1 ld_sw (by decide) (by decide) rfl (by decide) (lw_case_24 C O_ringAt hi hcs' hR K' H locs ls hI hl)
    | 25, _, _ => exact lv_tableIn (off := 981) (tgt := 1021) C.1 C.2.1 ld_sw (by decide) (by decide) rfl (by decide) (lw_case_25 C O_free hi hcs' hR K' H locs ls hI hl)
    | 26, _, _ => exact lv_tableIn (off := 994) (tgt := 1034) C.1 C.2.1 ld_sw (by decide) (by decide) rfl (by decide) (lw_case_26 C O_top hi hcs' hR K' H locs ls hI hl)
    | 27, _, _ => exact lv_tableIn (off := 1007) (tgt := 1047) C.1 C.2.1 ld_sw (by decide) (by decide) rfl (by decide) (lw_case_27 C O_taken hi hcs' hR K' H locs ls hI hl)
    | 28, _, _ => exact lv_tableIn (off := 1020) (tgt := 1060) C.1 C.2.1 ld_sw (by decide) (by decide) rfl (by decide) (lw_case_28 C O_paid hi hcs' hR K' H locs ls hI hl)
    | 29, _, _ => exact lv_tableIn (off := 1033) (tgt := 1073) C.1 C.2.1 ld_sw (by decide) (by decide) rfl (by decide) (lw_case_29 C O_worthOf hi hcs' hR K' H locs ls hI hl)
    | 30, _, _ => exact lv_tableIn (off := 1058) (tgt := 1098) C.1 C.2.1 ld_sw (by decide) (by decide) rfl (by decide) (lw_case_30 C O_fits hi hcs' hR K' H locs ls hI hl)
    | 31, _, _ => exact lv_tableIn (off := 1071) (tgt := 1111) C.1 C.2.1 ld_sw (by decide) (by decide) rfl (by decide) (lw_case_31 C O_fitAt hi hcs' hR K' H locs ls hI hl)
    | 32, _, _ => exact lv_tableIn (off := 1108) (tgt := 1148) C.1 C.2.1 ld_sw (by decide) (by decide) rfl (by decide) (lw_case_32 C O_says hi hcs' hR K' H locs ls hI hl)
    | 33, _, _ => exact lv_tableIn (off := 1145) (tgt := 1185) C.1 C.2.1 ld_sw (by decide) (by decide) rfl (by decide) (lw_case_33 C O_ask hi hcs' hR K' H locs ls hI hl)
    | 34, _, _ => exact lv_tableIn (off := 1158) (tgt := 1198) C.1 C.2.1 ld_sw (by decide) (by decide) rfl (by decide) (lw_case_34 C O_askLeaves hi hcs' hR K' H locs ls hI hl)
    | 35, _, _ => exact lv_tableIn (off := 1171) (tgt := 1211) C.1 C.2.1 ld_sw (by decide) (by decide) rfl (by decide) (lw_case_35 C O_judge hi hcs' hR K' H locs ls hI hl)
    | 36, _, _ => exact lv_tableIn (off := 1184) (tgt := 1224) C.1 C.2.1 ld_sw (by decide) (by decide) rfl (by decide) (lw_case_36 C O_foot hi hcs' hR K' H locs ls hI hl)
    | 37, _, _ => exact lv_tableIn (off := 1293) (tgt := 1333) C.1 C.2.1 ld_sw (by decide) (by decide) rfl (by decide) (lw_case_37 C O_rests hi hcs' hR K' H locs ls hI hl)
    | 38, _, _ => exact lv_tableIn (off := 1318) (tgt := 1358) C.1 C.2.1 ld_sw (by decide) (by decide) rfl (by decide) (lw_case_38 C O_rest hi hcs' hR K' H locs ls hI hl)
    | 39, _, _ => exact lv_tableIn (off := 1343) (tgt := 1383) C.1 C.2.1 ld_sw (by decide) (by decide) rfl (by decide) (lw_case_39 C O_odds hi hcs' hR K' H locs ls hI hl)
    | 40, _, _ => exact lv_tableIn (off := 1397) (tgt := 1437) C.1 C.2.1 ld_sw (by decide) (by decide) rfl (by decide) (lw_case_40 C O_standOdds hi hcs' hR K' H locs ls hI hl)
    | 41, _, _ => exact lv_tableIn (off := 1451) (tgt := 1491) C.1 C.2.1 ld_sw (by decide) (by decide) rfl (by decide) (lw_case_41 C O_mean hi hcs' hR K' H locs ls hI hl)
    | 42, _, _ => exact lv_tableIn (off := 1493) (tgt := 1533) C.1 C.2.1 ld_sw (by decide) (by decide) rfl (by decide) (lw_case_42 C O_thumbs hi hcs' hR K' H locs ls hI hl)
    | 43, _, _ => exact lv_tableIn (off := 1542) (tgt := 1582) C.1 C.2.1 ld_sw (by decide) (by decide) rfl (by decide) (lw_case_43 C O_smudged hi hcs' hR K' H locs ls hI hl)
    | 44, _, _ => exact lv_tableIn (off := 1579) (tgt := 1619) C.1 C.2.1 ld_sw (by decide) (by decide) rfl (by decide) (lw_case_44 C O_write hi hcs' hR K' H locs ls hI hl)
    | 45, _, _ => exact lv_tableIn (off := 1668) (tgt := 1708) C.1 C.2.1 ld_sw (by decide) (by decide) rfl (by decide) (lw_case_45 C O_strike hi hcs' hR K' H locs ls hI hl)
    | 46, _, _ => exact lv_tableIn (off := 1693) (tgt := 1733) C.1 C.2.1 ld_sw (by decide) (by decide) rfl (by decide) (lw_case_46 C O_fold hi hcs' hR K' H locs ls hI hl)
    | 47, _, _ => exact lv_tableIn (off := 1718) (tgt := 1758) C.1 C.2.1 ld_sw (by decide) (by decide) rfl (by decide) (lw_case_47 C O_undo hi hcs' hR K' H locs ls hI hl)
    | 48, _, _ => exact lv_tableIn (off := 1731) (tgt := 1771) C.1 C.2.1 ld_sw (by decide) (by decide) rfl (by decide) (lw_case_48 C O_image hi hcs' hR K' H locs ls hI hl)
    | 49, _, _ => exact lv_tableIn (off := 1744) (tgt := 1784) C.1 C.2.1 ld_sw (by decide) (by decide) rfl (by decide) (lw_case_49 C O_back hi hcs' hR K' H locs ls hI hl)
    | 50, _, _ => exact lv_tableIn (off := 1769) (tgt := 1809) C.1 C.2.1 ld_sw (by decide) (by decide) rfl (by decide) (h50 i σc σm g cells slots hi hcs.1 hcs.2 hR K H locs ls hI hl)
    | 51, _, _ => exact lv_tableIn (off := 1825) (tgt := 1865) C.1 C.2.1 ld_sw (by decide) (by decide) rfl (by decide) (lw_case_51 C O_size hi hcs' hR K' H locs ls hI hl)
    | 52, _, _ => exact lv_tableIn (off := 1850) (tgt := 1890) C.1 C.2.1 ld_sw (by decide) (by decide) rfl (by decide) (lw_case_52 C O_trouble hi hcs' hR K' H locs ls hI hl)
    | n + 53, _, h => exact absurd (show 52 < n + 53 by omega) h
theorem l_loop (C : lC p s m meth c XC XM cJ ob b L xs) (h50 : H50 p e s m below meth c XC XM cJ ob b L) : ∀ d i, L ≤ i + d → i ≤ 3078 → ∀ (σc σm : zS) (g : Nat → Int64) (cells slots : Nat), Rel σc σm → cells + d ≤ 601024 → slots + 6 * d ≤ 7293033 → lG p e s m below meth c XC XM cJ ob b 23 i [] σc σm g cells slots := by
  intro d
  induction d using Nat.strongRecOn with
  | ind d ih =>
    intro i hd hi σc σm g cells slots hR h1 h2
    have hL := C.2.2.2.2.2.2.2.2.2.1
    refine l_head23 C hi (l_done C ⟨by omega, by omega⟩) (fun hiL => ?_)
    obtain ⟨k, hk, ek⟩ := and63 (xs i)
    rw [ek]
    refine l_sw C h50 hiL ⟨by omega, by omega⟩ hR (fun σc' σm' g' cells' slots' hR' z1 z2 => ?_) k hk
    exact l_turn C (ih (d - 6) (by omega) (i + 6) (by omega) (by omega) σc' σm' g' cells' slots' hR' (by omega) (by omega))
end LP
