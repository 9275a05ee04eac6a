
/-- the law's own led: out[0] becomes what comes; 1 if it is thrown -/
def yLled : MethodName := ⟨"PostScriptsLaw", "led", "(LPostScripts;I[J)I"⟩
def cLled : ByteArray := method_3_code
def wLled : Cond := .codeWith yLled cLled 4 (some .int) [(0, 9, 12, 13)]
theorem wLled_in : wLled ∈ zTT := zTT_in (i := 1228) (by decide +kernel) rfl
theorem dLled : ∀ q ∈ ([(0, .aload_n 2, 1), (1, .iconst 0, 1), (2, .aload_n 0, 1), (3, .iload_n 1, 1), (4, .invokevirtual 7, 3), (7, .i2l, 1), (8, .lastore, 1), (9, .goto 6, 3), (12, .astore_n 3, 1), (13, .iconst 1, 1), (14, .ireturn, 1), (15, .iconst 0, 1), (16, .ireturn, 1)] : List (Nat × Instr × Nat)), decode cLled q.1 = .ok q.2 := by decide +kernel
theorem zXu.at {X : zX} {w : zW} {s U : State} {H : Heap} {locs : List Loc} (h : zXu X w s) (hS : va_S (zA X w) s.heap H locs) (hU : U.heap = H) (hW : s.WarmedH U.vm) : zXu X w U :=
  ⟨zbad_warm hW h.1, by rw [hU]; exact (h.2.1.kept hS.2.1).moved hW.alike, by rw [hU]; exact (h.2.2.1.kept hS.2.1).moved hW.alike, h.2.2.2⟩
/-- what the law's led comes to: the answer, the cell out -/
def zLq (r : Option Int32) (g : Nat → Int64) : Int32 × (Nat → Int64) := match r with
  | some v => (0, vp_updL g 0 v.toInt64)
  | none => (1, g)
def zLb (X : zX) (cJ : ClassId) (ob : Nat) (σ : zS) (g : Nat → Int64) (U : State) : Prop := zB X WC σ U ∧ zXu X WC U ∧ U.heap[ob]? = some (vp_cell cJ (1, .inr (.inl g))) ∧ ArrOfT U cJ .long ∧ ¬ zA X WC ob
def zLf (X : zX) (ob : Nat) : Nat → Prop := fun q => zA X WC q ∨ q = ob
def zLQ (X : zX) (cJ : ClassId) (ob : Nat) (r : Option Int32) (σ : zS) (g : Nat → Int64) : Array Value → State → Outcome → State → Prop := fun _ st oc t =>
  oc = .returned (some (.int (zLq r g).1)) ∧ va_P X.2.1 vwCl (zw X WC σ) t.heap ∧ t.heap[ob]? = some (vp_cell cJ (1, .inr (.inl (zLq r g).2))) ∧ va_F (zLf X ob) st t
theorem c_Lled (X : zX) (cJ : ClassId) (d ob : Nat) (hd : 9 ≤ d) (x : Int32) (σ σ' : zS) (g : Nat → Int64) (r : Option Int32) (hf : f_X10_led 0 x σ = some (r, σ')) : Met X.1 yLled (wLled :: zTT) (zrn d 1 6) (va_Pc [.ref (za X 0), .int x, .ref ob] (zLb X cJ ob σ g)) (zLQ X cJ ob r σ' g) 1 6 (zLf X ob) := by
  sorry
