def zgC : List (Nat × Nat) := [(10, 0), (8, 0), (9, 0), (101, 900), (4, 0), (100, 14), (100, 14), (100, 14), (100, 14), (3, 0), (100, 6), (100, 6), (100, 6), (100, 6), (100, 4), (100, 4), (100, 3), (6, 0), (100, 8), (100, 8), (100, 8), (100, 8), (100, 8), (0, 0), (100, 6), (100, 6), (100, 6), (100, 6), (5, 0), (100, 6), (5, 0), (100, 6), (6, 0), (100, 8), (100, 8), (100, 8), (100, 8), (100, 8), (103, 3), (6, 0), (100, 8), (100, 8), (100, 8), (100, 8), (100, 8), (6, 0), (100, 8), (100, 8), (100, 8), (100, 8), (100, 8), (6, 0), (100, 8), (100, 8), (100, 8), (100, 8), (100, 8), (7, 0), (100, 16), (100, 16), (2, 0), (100, 729), (100, 27), (100, 4), (100, 4), (100, 4), (100, 4), (1, 0), (100, 6), (3, 0), (100, 6), (100, 6), (100, 6), (100, 6), (100, 4), (100, 4), (100, 3), (6, 0), (100, 8), (100, 8), (100, 8), (100, 8), (100, 8), (0, 0), (100, 6), (100, 6), (100, 6), (100, 6)]
def zgM : List (Nat × Nat) := [(11, 0), (100, 900), (100, 8), (100, 195), (100, 195), (100, 50), (100, 50), (100, 50), (100, 800), (100, 150), (100, 12), (100, 12), (100, 12), (100, 5), (100, 5), (100, 6), (100, 6), (100, 27)]
/-- the cells of a PostScripts, of a PostScriptsModel -/
def WC : zW := (88, fun a => zgC.getD a (999, 0))
def WM : zW := (18, fun a => zgM.getD a (999, 0))
def zslen (a : Nat) : Int32 := Int32.ofNat (zlen.getD (a - 1000) 0)
def zsch (a : Nat) (i : Int32) : Int32 := (zbyt.getD (a - 1000) []).getD i.toNatClampNeg 0
theorem z_out1 {x : Int32} (n : Nat) (h : ∀ j, j < n → ¬ x = nI (j + 1)) (hn : n < 2 ^ 31 - 1) (hi : Int) (hh : hi = (n : Int)) : x.toInt < 1 ∨ hi < x.toInt := by
  subst hh
  rcases Int.lt_or_le x.toInt 1 with q | q
  · exact Or.inl q
  · refine Or.inr ?_
    rcases Int.lt_or_le (n : Int) x.toInt with z | z
    · exact z
    · exfalso
      refine h (x.toInt.toNat - 1) (by omega) (Int32.toInt_inj.mp ?_)
      rw [nI_toInt (by omega)]
      omega
theorem zl_X9_50 : Cond.methodLink RX9 50 ⟨"java/lang/String", "length", "()I"⟩ ∈ zTT := zTT_in (i := 607) (by decide +kernel) rfl
theorem zl_X9_56 : Cond.methodLink RX9 56 ⟨"java/lang/String", "charAt", "(I)C"⟩ ∈ zTT := zTT_in (i := 617) (by decide +kernel) rfl
theorem zl_X11_110 : Cond.methodLink RX11 110 ⟨"java/lang/String", "length", "()I"⟩ ∈ zTT := zTT_in (i := 1468) (by decide +kernel) rfl
theorem zl_X11_116 : Cond.methodLink RX11 116 ⟨"java/lang/String", "charAt", "(I)C"⟩ ∈ zTT := zTT_in (i := 1469) (by decide +kernel) rfl
section ZSTR
variable {X : zX} {w : zW} {R : Room} {M : zM} {ρ : Type} {Z : ρ → zS → zZt} {pc : Nat} {L : List (Option Value)} {st : List Value} {σ : zS} {k : Option (ρ × zS)}
theorem z_ldcwS0 {p : Program} {l : Launch} {e : Env} {R : Room} {s : State} {m : MethodId} {args : Array Value} {below : List Frame} {meth : Method} {c : Code} {T : State} {locs : List Loc} {cells slots : Nat}
    (X : Stand p l e R s m args below meth c T locs cells slots) (hexec : p.tables.exec = Jvm.exec) {own text : String} {index : Nat} {a : Addr} (hown : s.vm.findClass own = some m.cls)
    (hconst : (Cond.stringRef own index text).before #[] s = true) (hev : (Term.string own index).eval #[] s none [] s = some (.ref a)) {g : JFrame} (hg : g.method = m) (hdg : decode c.code g.pc = .ok (.ldc_w index, 3)) :
    ∀ target, Steps p.tables e below (T.setTop { g with pc := g.pc + 3, stack := .ref a :: g.stack }) target → Steps p.tables e below (T.setTop g) target := by
  obtain ⟨k, cf, i, a', hk, hcf, hcp, -, hr, hev'⟩ := Cond.stringRef_spec hown hconst
  cases hev.symm.trans hev'
  obtain ⟨k', hk', he⟩ := X.warmed.alike.2.2 _ _ hk
  have hr' : k'.resolved[index]? = some (some (.string a)) := by
    rcases X.warmed.entry hk hk' index with h | ⟨h, -⟩
    · rw [h]; exact hr
    · rw [hr] at h; cases h
  intro target hrest
  subst hg
  jvm_step X.here [hexec, hdg, ldc_w.wp_string (e := e) (s := T) (f := g) X.here.top hk' (by rw [he]; exact hcf) hcp hr']
  exact hrest
theorem z_ldcwS (i n j : Nat) {a : Nat} {tx : String} (hd : M.2.2.2.2[i]? = some (pc, .ldc_w a, 3)) (hn : pc + 3 = n) (hv : (M.1.cls, a, tx, j) ∈ zstr) (h : zK X w R M Z n L (.ref (1000 + j) :: st) σ k) : zK X w R M Z pc L st σ k := by
  subst hn
  intro r σ' hk p e s m args below meth c C H locs ls hP hS hl
  have e1 : zv X (.ref (1000 + j)) = .ref (X.2.2.2.2.1 j) := by
    show Value.ref (za X (1000 + j)) = _
    unfold za
    rw [if_neg (by omega), Nat.add_sub_cancel_left]
  have h1 := h r σ' hk p e s m args below meth c C H locs ls hP hS hl
  rw [List.map_cons, e1] at h1
  have hZ := C.hV.2.1 _ hv
  intro T hT Xs
  obtain ⟨t, a1, b1⟩ := h1 T hT Xs
  exact ⟨t, z_ldcwS0 Xs C.hx C.hown (text := tx) hZ.1 hZ.2 (g := F0 m pc ls (st.map (zv X))) rfl (by rw [C.hb]; exact C.dec hd) t a1, b1⟩
theorem z_mmax (i n : Nat) {ix d : Nat} {x y : Int32} (hd : M.2.2.2.2[i]? = some (pc, .invokestatic ix, 3)) (hn : pc + 3 = n) (hlk : Cond.methodLink M.1.cls ix Lib.Math.max.name ∈ zTT) (hR : zR R d) (hLn : L.length = M.2.2.1) (hst : (st.map fun v => v.category).sum ≤ 8) (h : zK X w R M Z n L (.int (if x < y then y else x) :: st) σ k) : zK X w R M Z pc L (.int y :: .int x :: st) σ k := by
  subst hn
  intro r σ' hk p e s m args below meth c C H locs ls hP hS hl
  have h1 : Cond.static Lib.Math.max.name ∈ zTT := zTT_in (i := 1113) (by decide +kernel) rfl
  have h2 : Cond.initialized "java/lang/Math" ∈ zTT := zTT_in (i := 154) (by decide +kernel) rfl
  have h3 : Cond.code Lib.Math.max.name Lib.Math.max.code 2 (some .int) ∈ zTT := zTT_in (i := 1114) (by decide +kernel) rfl
  exact va_mmax C.hx C.hb (by rw [C.hml, hl.1, List.length_map, hLn]) C.hown (C.hts _ hlk) (C.hts _ h1) (C.hts _ h2) (C.hts _ h3) (Nat.le_trans (Nat.le_add_left 1 d) hR.1) (by rw [zcat_map]; have := hR.2; omega) (Nat.zero_le _) (Nat.zero_le _) (C.dec hd) (h r σ' hk p e s m args below meth c C H locs ls hP hS hl)
end ZSTR
