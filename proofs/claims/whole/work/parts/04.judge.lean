/-- the String constants: how long, their bytes; and where each class has them -/
def zlen : List Nat := [6, 5, 4, 4, 6, 5, 6, 4, 3, 3, 4, 4, 5, 2, 3, 6, 5, 4]
def zbyt : List (List Int32) := [[108, 101, 116, 116, 101, 114], [112, 108, 97, 99, 101], [111, 118, 101, 114], [104, 97, 110, 100], [109, 97, 116, 116, 101, 114], [119, 114, 111, 116, 101], [104, 105, 100, 100, 101, 110], [100, 111, 110, 101], [98, 105, 100], [119, 101, 116], [114, 97, 110, 107], [114, 111, 111, 109], [112, 117, 114, 115, 101], [100, 111], [110, 111, 116], [105, 110, 99, 104, 101, 115], [100, 111, 117, 98, 116], [112, 97, 121, 115]]
def zstr : List (String × Nat × String × Nat) := [("PostScripts$Reade\x72", 76, "lette\x72", 0), ("PostScripts$Reade\x72", 82, "place", 1), ("PostScripts$Reade\x72", 84, "ove\x72", 2), ("PostScripts$Reade\x72", 86, "hand", 3), ("PostScripts$Reade\x72", 88, "matte\x72", 4), ("PostScripts$Reade\x72", 90, "wrote", 5), ("PostScripts$Reade\x72", 92, "hidden", 6), ("PostScripts$Reade\x72", 94, "done", 7), ("PostScripts$Reade\x72", 96, "bid", 8), ("PostScripts$Reade\x72", 102, "wet", 9), ("PostScripts$Reade\x72", 142, "rank", 10), ("PostScripts$Reade\x72", 153, "room", 11), ("PostScripts$Reade\x72", 177, "purse", 12), ("PostScripts$Reade\x72", 227, "do", 13), ("PostScripts$Reade\x72", 229, "not", 14), ("PostScripts$Reade\x72", 197, "inches", 15), ("PostScripts$Reade\x72", 210, "doubt", 16), ("PostScripts$Reade\x72", 222, "pays", 17), ("PostScriptsModel", 134, "lette\x72", 0), ("PostScriptsModel", 231, "wet", 9), ("PostScriptsModel", 136, "place", 1), ("PostScriptsModel", 137, "ove\x72", 2), ("PostScriptsModel", 139, "hand", 3), ("PostScriptsModel", 141, "matte\x72", 4), ("PostScriptsModel", 143, "wrote", 5), ("PostScriptsModel", 145, "hidden", 6), ("PostScriptsModel", 147, "done", 7), ("PostScriptsModel", 149, "bid", 8), ("PostScriptsModel", 241, "rank", 10), ("PostScriptsModel", 243, "room", 11), ("PostScriptsModel", 248, "purse", 12), ("PostScriptsModel", 250, "do", 13), ("PostScriptsModel", 252, "not", 14), ("PostScriptsModel", 260, "inches", 15), ("PostScriptsModel", 270, "doubt", 16), ("PostScriptsModel", 272, "pays", 17)]
def znest : Cond := .methodLinkNest "PostScripts" 241 ⟨"PostScripts$Duel", "wonByOne", "(LPostScripts$Order;IIIZ)Z"⟩ "PostScripts"

/-- what else holds around every call: String constants, two statics of the JDK, the one nest mate's link -/
def zV (X : zX) (A : Nat → Prop) (U : State) (H : Heap) : Prop :=
  vk_S 18 zlen zbyt X.2.2.2.2.1 X.2.2.2.2.2 A U H ∧ (∀ q ∈ zstr, vk_R q.1 q.2.1 q.2.2.1 (X.2.2.2.2.1 q.2.2.2) U) ∧
  va_Z "java/lang/String" "COMPACT_STRINGS" "Z" (.int 1) A U H ∧ va_Zq "jdk/internal/util/Preconditions" "SIOOBE_FORMATTER" "Ljava/util/function/BiFunction;" A U H ∧ va_Nw znest U
theorem zV.warm {X : zX} {A : Nat → Prop} {s U : State} {H : Heap} (hW : s.WarmedH U.vm) (h : zV X A s H) : zV X A U H :=
  ⟨h.1.moved hW.alike, fun q hq => (h.2.1 q hq).warm hW, h.2.2.1.moved hW.alike, h.2.2.2.1.moved hW.alike, va_Nw.warmM hW h.2.2.2.2⟩
theorem zV.kept {X : zX} {A : Nat → Prop} {U : State} {H H1 : Heap} (h : zV X A U H) (hq : ∀ a : Nat, a < H.size → ¬ A a → H1[a]? = H[a]?) : zV X A U H1 :=
  ⟨h.1.kept hq, h.2.1, h.2.2.1.kept hq, h.2.2.2.1.kept hq, h.2.2.2.2⟩
/-- the world before and behind a call -/
def zB (X : zX) (w : zW) (σ : zS) (U : State) : Prop := va_P X.2.1 vwCl (zw X w σ) U.heap ∧ va_K X.2.1 vwCl (zt X) U ∧ zOK X w ∧ zV X (zA X w) U U.heap
def zQc (X : zX) (w : zW) (o : Option Value × zS) : Array Value → State → Outcome → State → Prop := fun _ st oc t => (oc = .returned (o.1.map (zv X)) ∧ zB X w o.2 t) ∧ va_F (zA X w) st t
def zrm (d : Nat) : Room := { frames := d, cells := 0, slots := 0, locals := 40 * d }
/-- a method's contract: called with vs in the world σ it comes back with o -/
def zCN (X : zX) (w : zW) (d : Nat) (M : zM) (vs : List Value) (σ : zS) (o : Option Value × zS) : Prop :=
  Met X.1 M.1 (Cond.code M.1 M.2.1 M.2.2.1 M.2.2.2.1 :: zTT) (zrm d) (va_Pc (vs.map (zv X)) (zB X w σ)) (zQc X w o) 0 0 (zA X w)
def zT (M : zM) : Prop := ∀ (i : Nat) (q : Nat × Instr × Nat), M.2.2.2.2[i]? = some q → decode M.2.1 q.1 = .ok q.2
def zC (X : zX) (w : zW) (M : zM) (p : Program) (s : State) (m : MethodId) (args : Array Value) (meth : Method) (c : Code) : Prop :=
  p.tables.exec = Jvm.exec ∧ c.code = M.2.1 ∧ c.maxLocals = M.2.2.1 ∧ meth.sig.returnType = M.2.2.2.1 ∧ meth.locks = false ∧ s.vm.findClass M.1.cls = some m.cls ∧
  (∀ w ∈ zTT, w.before args s = true) ∧ va_K X.2.1 vwCl (zt X) s ∧ zOK X w ∧ zV X (zA X w) s s.heap ∧ zT M
theorem zC.hx {X : zX} {w : zW} {M : zM} {p : Program} {s : State} {m : MethodId} {args : Array Value} {meth : Method} {c : Code} (C : zC X w M p s m args meth c) : p.tables.exec = Jvm.exec := C.1
theorem zC.hb {X : zX} {w : zW} {M : zM} {p : Program} {s : State} {m : MethodId} {args : Array Value} {meth : Method} {c : Code} (C : zC X w M p s m args meth c) : c.code = M.2.1 := C.2.1
theorem zC.hml {X : zX} {w : zW} {M : zM} {p : Program} {s : State} {m : MethodId} {args : Array Value} {meth : Method} {c : Code} (C : zC X w M p s m args meth c) : c.maxLocals = M.2.2.1 := C.2.2.1
theorem zC.hr {X : zX} {w : zW} {M : zM} {p : Program} {s : State} {m : MethodId} {args : Array Value} {meth : Method} {c : Code} (C : zC X w M p s m args meth c) : meth.sig.returnType = M.2.2.2.1 := C.2.2.2.1
theorem zC.hlk {X : zX} {w : zW} {M : zM} {p : Program} {s : State} {m : MethodId} {args : Array Value} {meth : Method} {c : Code} (C : zC X w M p s m args meth c) : meth.locks = false := C.2.2.2.2.1
theorem zC.hown {X : zX} {w : zW} {M : zM} {p : Program} {s : State} {m : MethodId} {args : Array Value} {meth : Method} {c : Code} (C : zC X w M p s m args meth c) : s.vm.findClass M.1.cls = some m.cls := C.2.2.2.2.2.1
theorem zC.hts {X : zX} {w : zW} {M : zM} {p : Program} {s : State} {m : MethodId} {args : Array Value} {meth : Method} {c : Code} (C : zC X w M p s m args meth c) : ∀ w ∈ zTT, w.before args s = true := C.2.2.2.2.2.2.1
theorem zC.hK {X : zX} {w : zW} {M : zM} {p : Program} {s : State} {m : MethodId} {args : Array Value} {meth : Method} {c : Code} (C : zC X w M p s m args meth c) : va_K X.2.1 vwCl (zt X) s := C.2.2.2.2.2.2.2.1
theorem zC.ok {X : zX} {w : zW} {M : zM} {p : Program} {s : State} {m : MethodId} {args : Array Value} {meth : Method} {c : Code} (C : zC X w M p s m args meth c) : zOK X w := C.2.2.2.2.2.2.2.2.1
theorem zC.hV {X : zX} {w : zW} {M : zM} {p : Program} {s : State} {m : MethodId} {args : Array Value} {meth : Method} {c : Code} (C : zC X w M p s m args meth c) : zV X (zA X w) s s.heap := C.2.2.2.2.2.2.2.2.2.1
theorem zC.dec {X : zX} {w : zW} {M : zM} {p : Program} {s : State} {m : MethodId} {args : Array Value} {meth : Method} {c : Code} (C : zC X w M p s m args meth c) {i pc n : Nat} {g : Instr} (h : M.2.2.2.2[i]? = some (pc, g, n)) : decode M.2.1 pc = .ok (g, n) := C.2.2.2.2.2.2.2.2.2.2 i (pc, g, n) h
/-- the locals -/
def zl (ls : Array Slot) (L : List (Option Value)) : Prop := ls.size = L.length ∧ lv_wf ls ∧ ∀ (i : Nat) (v : Value), L[i]? = some (some v) → ls[i]? = some (.val v)
abbrev zZt : Type := List Frame → Array Value → State → State → Prop
/-- the machine stands at pc, with these locals and this stack, in the world σ: it comes to Z -/
def zG (X : zX) (w : zW) (R : Room) (M : zM) (Z : zZt) (pc : Nat) (L : List (Option Value)) (st : List Value) (σ : zS) : Prop :=
  ∀ (p : Program) (e : Env) (s : State) (m : MethodId) (args : Array Value) (below : List Frame) (meth : Method) (c : Code), zC X w M p s m args meth c →
  ∀ (H : Heap) (locs : List Loc) (ls : Array Slot), va_P X.2.1 vwCl (zw X w σ) H → va_S (zA X w) s.heap H locs → zl ls (L.map (Option.map (zv X))) →
  W p X.1 e R s m args below meth c H locs 0 0 (Z below args s) (F0 m pc ls (st.map (zv X)))
/-- .. if k comes to something, then to that -/
def zK {ρ : Type} (X : zX) (w : zW) (R : Room) (M : zM) (Z : ρ → zS → zZt) (pc : Nat) (L : List (Option Value)) (st : List Value) (σ : zS) (k : Option (ρ × zS)) : Prop :=
  ∀ (r : ρ) (σ' : zS), k = some (r, σ') → zG X w R M (Z r σ') pc L st σ
/-- the pieces of the pure terms -/
def zck {α : Type} (c : Prop) [Decidable c] (k : Option α) : Option α := if c then k else none
def zbr {α : Type} (c : Prop) [Decidable c] (k1 k2 : Option α) : Option α := if c then k1 else k2
def zlt {α β : Type} (v : β) (k : β → Option α) : Option α := k v
def zbd {α β : Type} (f : Option (β × zS)) (k : β → zS → Option α) : Option α := match f with
  | none => none
  | some q => k q.1 q.2
abbrev zb (v : Int32) : Prop := v = 0 ∨ v = 1
/-- the place is in the row, and the row is of that sort -/
abbrev zok (s : Nat) (g : Nat × Nat) (i : Int32) : Prop := g.1 = s ∧ 0 ≤ i.toInt ∧ i.toInt < g.2
def zZ {ρ : Type} (X : zX) (w : zW) (em : ρ → Option Value) : ρ → zS → zZt := fun r σ' below args s => MQ below (zQc X w (em r, σ')) args s 0 0 (zA X w)
def zeI (r : Int32) : Option Value := some (.int r)
def zeL (r : Int64) : Option Value := some (.long r)
def zeV (_ : Unit) : Option Value := none
