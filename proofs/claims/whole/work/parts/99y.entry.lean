/-! the law's entry: its two objects are made, its row of one long, its loop begins -/
def lte : List (Nat × Instr × Nat) := [(0, .new 8, 3), (3, .dup, 1), (4, .invokespecial 15, 3), (7, .astore_n 1, 1), (8, .new 16, 3), (11, .dup, 1), (12, .invokespecial 18, 3), (15, .astore_n 2, 1), (16, .iconst 1, 1), (17, .newarray .long, 2), (19, .astore_n 3, 1), (20, .iconst 0, 1), (21, .istore 4, 2)]
theorem lte0 : ∀ q ∈ lte, decode code q.1 = .ok q.2 := by decide +kernel
theorem ld_e (i : Nat) {pc n : Nat} {g : Instr} (h : lte[i]? = some (pc, g, n)) : decode code pc = .ok (g, n) := lte0 (pc, g, n) (List.mem_of_getElem? h)
theorem st_ok {X : zX} {B : Nat} {w : zW} (hB : zAd X B) (h : w.1 ≤ 1000) (h2 : ∀ a, w.1 ≤ a → w.2 a = (999, 0)) : zOK X w := ⟨fun a b ha hb e => by rw [za_of hB (by omega), za_of hB (by omega)] at e; omega, h2, h⟩
theorem st_A {X : zX} {B : Nat} {w : zW} (hB : zAd X B) (h : w.1 ≤ 1000) {q : Nat} (hq : zA X w q) : B ≤ q ∧ q < B + w.1 := by
  obtain ⟨a, ha, e⟩ := hq
  rw [za_of hB (by omega)] at e
  omega
theorem st_WC : ∀ a, WC.1 ≤ a → WC.2 a = (999, 0) := fun a ha => by
  have hl : zgC.length = 88 := by decide +kernel
  have ha : 88 ≤ a := ha
  show zgC.getD a (999, 0) = (999, 0)
  rw [List.getD_eq_getElem?_getD, List.getElem?_eq_none (by omega)]
  rfl
theorem st_WM : ∀ a, WM.1 ≤ a → WM.2 a = (999, 0) := fun a ha => by
  have hl : zgM.length = 18 := by decide +kernel
  have ha : 18 ≤ a := ha
  show zgM.getD a (999, 0) = (999, 0)
  rw [List.getD_eq_getElem?_getD, List.getElem?_eq_none (by omega)]
  rfl
theorem st_C {p : Program} {s : State} {m : MethodId} {meth : Method} {c : Code} (l : Launch) (hflags : l.flags = flags0) {b L : Nat} {xs : Nat → Int32} (hL : L ≤ 3072) (C0 : lw_At p s m meth c b L xs) : ∃ (D : va_G) (cA : Nat → ClassId) (adK adV : Nat → Nat) (cJ : ClassId), lC p s m meth c (l, D, fun k => s.heap.size + k, cA, adK, adV) (l, D, fun k => s.heap.size + 88 + k, cA, adK, adV) cJ (s.heap.size + 106) b L xs ∧ zNs s ∧ s.vm.findClass ("[" ++ FieldType.long.toString) = some cJ := by
  obtain ⟨hx, hb, hr, hml, hown, hts, hX, hbl, hlk, hgv⟩ := C0
  have hs : ∀ w ∈ stF, w.before #[Value.ref b] s = true := flat_of_before _ hgv
  have ht : ∀ w ∈ zTT, w.before #[Value.ref b] s = true := fun w hw => hts w (List.mem_filter.mp hw).1
  obtain ⟨D, cA, cJ, hK, hJ, hJn⟩ := st_K hts
  have hA : ∀ a : Nat, a < s.heap.size → ¬ (fun q : Nat => s.heap.size ≤ q) a := fun a h => Nat.not_le.mpr h
  obtain ⟨adK, adV, hV1, hV2⟩ := st_str (A := fun q : Nat => s.heap.size ≤ q) hts hs hA
  obtain ⟨hZ1, hZ2, hZ3⟩ := st_Z (A := fun q : Nat => s.heap.size ≤ q) hts hs hA
  have key : ∀ (X : zX) (B : Nat) (w : zW), X = (l, D, fun k => B + k, cA, adK, adV) → s.heap.size ≤ B → w.1 ≤ 1000 → (∀ a, w.1 ≤ a → w.2 a = (999, 0)) → lS X w s ∧ ∀ q, zA X w q → B ≤ q ∧ q < B + w.1 := by
    intro X B w e hB h1 h2
    subst e
    have hAd : zAd (l, D, fun k => B + k, cA, adK, adV) B := fun k => rfl
    have hq : ∀ q, zA (l, D, fun k => B + k, cA, adK, adV) w q → B ≤ q ∧ q < B + w.1 := fun q z => st_A hAd h1 z
    have hn : ∀ q, zA (l, D, fun k => B + k, cA, adK, adV) w q → s.heap.size ≤ q := fun q z => Nat.le_trans hB (hq q z).1
    exact ⟨⟨hK, st_ok hAd h1 h2, ⟨hV1.narrow hn, hV2, hZ1.narrow hn, hZ2.narrow hn, hZ3⟩, hn⟩, hq⟩
  obtain ⟨hSC, hC⟩ := key _ s.heap.size WC rfl (Nat.le_refl _) (by decide) st_WC
  obtain ⟨hSM, hM⟩ := key _ (s.heap.size + 88) WM rfl (Nat.le_add_right _ _) (by decide) st_WM
  refine ⟨D, cA, adK, adV, cJ, ⟨hx, hb, hr, hml, hown, ht, hX, hbl, hlk, hL, hSC, hSM, st_Xu hts hs (fun a ha z => absurd (hSC.2.2.2 a z) (Nat.not_le.mpr ha)) hflags, hJ, fun q z1 z2 => ?_, fun z => ?_, fun z => ?_, Nat.le_add_right _ _, rfl⟩, st_Ns hts, hJn⟩
  · have h1 := (hC q z1).2
    have h2 := (hM q z2).1
    have h3 : WC.1 = 88 := rfl
    omega
  · have h1 := (hC _ z).2
    have h3 : WC.1 = 88 := rfl
    omega
  · have h1 := (hM _ z).2
    have h3 : WM.1 = 18 := rfl
    omega
/-- new C(), at the law -/
theorem st_obj {p : Program} {e : Env} {s : State} {m : MethodId} {below : List Frame} {meth : Method} {c : Code} {X : zX} {B b ci ix iy pc mc ms cells slots : Nat} {q : vw_C} {ty : Nat → FieldType} {M : zM} {S : zN} {H : Heap} {locs : List Loc} {ls : Array Slot} {Q : State → Prop}
    (hx : p.tables.exec = Jvm.exec) (hb : c.code = code) (hml : c.maxLocals = 7) (hown : s.vm.findClass R_law = some m.cls) (hts : ∀ w ∈ zTT, w.before #[Value.ref b] s = true) (hK : va_K X.2.1 vwCl (zt X) s) (hA : zAd X B) (hN : zNs s) (hlz : ls.size = 7)
    (hcl : zcl ci q ty) (hlk : Cond.classLink R_law ix q.1 ∈ zTT) (hin : Cond.instantiable q.1 q.2.2 ∈ zTT) (hini : Cond.initialized q.1 ∈ zTT) (hty : ∀ k, k < q.2.2 → ∀ b, (zf ci)[k]? = some b → defaultValue (ty k) = if b = true then Value.null else .int 0)
    (hlk2 : Cond.methodLink R_law iy M.1 ∈ zTT) (hm : zMI M) (hC : zCI X B 4 M 0 ([(ci, 0)], zS0) S mc ms) (hSl : S.1.length = 1 + mc) (hSl2 : S.1.length ≤ 1000) (d0 : decode code pc = .ok (.new ix, 3)) (d1 : decode code (pc + 3) = .ok (.dup, 1)) (d2 : decode code (pc + 4) = .ok (.invokespecial iy, 3))
    (hz : H.size = B) (hcs : s.heap.size + cells = B) (hc : cells + 1 + mc ≤ 601024) (hs : slots + q.2.2 + ms ≤ 7293033)
    (k : ∀ (H1 : Heap) (L1 : List Loc), va_P X.2.1 vwCl (zwn X S) H1 → H1.size = B + 1 + mc → (∀ x, x < B → H1[x]? = H[x]?) → (∀ l ∈ L1, B ≤ l.base) → W p X.1 e room_1 s m #[Value.ref b] below meth c H1 (locs ++ L1) (cells + 1 + mc) (slots + q.2.2 + ms) Q (F0 m (pc + 7) ls [.ref (za X 0)])) :
    W p X.1 e room_1 s m #[Value.ref b] below meth c H locs cells slots Q (F0 m pc ls []) := by
  obtain ⟨h5, h1, h6, h7, h4, h8⟩ := hcl
  have hKn := hK.1 ci _ h1
  have ea : za X 0 = B := by rw [za_of hA (by decide)]; rfl
  refine W.newcK (h := za X 0) hx hb hown (hts _ hlk) (hts _ hin) (hts _ hini) rfl d0 (by show cells + 1 ≤ 601024; omega) (by show slots + q.2.2 ≤ 7293033; omega) hKn.2.1 (by rw [ea]; exact hz) (fun H1 kC hkC e1 z1 o1 => ?_)
  have hI0 : zI X ([], zS0) H := ⟨fun k x hx => absurd hx (by simp [zwn]), fun a _ j => ⟨rfl, rfl⟩⟩
  have hI : zI X ([(ci, 0)], zS0) H1 := zI_push (S := ([], zS0)) hA (by decide) hI0 (by rw [hz]; rfl) (ci, 0) (by
    have e2 : zEn X zS0 0 (ci, 0) = .inr (ci, zfn X zS0 0 ci) := by simp [zEn, h5]
    show va_at X.2.1 vwCl (B + 0, zEn X zS0 0 (ci, 0)) H1
    rw [e2]
    rw [ea] at e1
    refine ⟨_, h1, (u_born ty hts h4 hKn hkC e1 h6).to (fun j hj => ?_)⟩
    obtain ⟨b, hb⟩ : ∃ b, (zf ci)[j]? = some b := ⟨(zf ci)[j]'(by rw [h8]; exact hj), List.getElem?_eq_getElem _⟩
    rw [hty j hj b hb]
    simp only [vp_V, zfn, List.getD_eq_getElem?_getD, List.getElem?_mapIdx, hb, Option.map_some, Option.getD_some]
    rfl) (by rw [z1, ea]; rfl) (fun x hx => o1 x (by rw [ea]; exact hx))
  rw [ea] at z1 o1
  refine lv_dup hx hb d1 rfl ?_
  obtain ⟨⟨m1, m2, m3, m4⟩, m5, m6, m7⟩ := hm
  have hR2 : (zrn 4 mc ms).frames + 1 ≤ room_1.frames ∧ 8 + (M.2.2.1 + 11) + (zrn 4 mc ms).locals ≤ room_1.locals := ⟨by show 4 + 1 ≤ 2048; decide, by show 8 + (M.2.2.1 + 11) + 40 * 4 ≤ 84000; omega⟩
  have hrun := va_runI (p := p) (e := e) (below := below) (meth := meth) (H := H1) (locs := locs) (cells := cells + 1) (slots := slots + q.2.2) (As := []) (rest := [.ref (za X 0)]) (b := za X 0) (g := F0 m (pc + 4) ls [.ref (za X 0), .ref (za X 0)]) ⟨hx, hb, hml, hown, hts⟩ hC (cwI 0 hts (zGood m1) (by rw [m7]) rfl rfl (hts _ m2) (hts _ hlk2) (hts _ m5) m6 m3 hR2)
    ⟨zBn_blind, fun U hU hW => ⟨rfl, by rw [hU]; exact z1, by rw [hU]; exact hI, va_K.moved hW.alike hK, hA, hN.warm hW⟩⟩ rfl rfl hlz rfl (lv_room (Nat.le_of_ble_eq_true rfl)) d2 ⟨by show cells + 1 + mc ≤ 601024; omega, by show slots + q.2.2 + ms ≤ 7293033; omega⟩
  intro T hT Xs
  obtain ⟨v, st₀, t, T', L', h0, X', hL, t1, t2, ⟨⟨hv, hB⟩, hz2, hk2⟩, stp⟩ := hrun T hT Xs
  cases hv
  rw [h0] at hz2 hk2
  have hI2 : zI X S T'.heap := by rw [t1]; exact hB.1
  obtain ⟨u, a1, b1⟩ := W_sized (fun hsz => k T'.heap L' hI2.1 (Nat.le_antisymm (by omega) (by have := zI_ge hA hI2 (by omega) hSl2; omega)) (fun x hx => by rw [t1]; exact (hk2 x (by omega) (Nat.not_le.mpr hx)).trans (o1 x hx)) (fun l hl => hL l hl)) T' rfl X'
  exact ⟨u, stp u a1, b1⟩
