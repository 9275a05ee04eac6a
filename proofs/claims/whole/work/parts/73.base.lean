/-! PHASE 3, its base: the pure programs' judgement zH, ints as numbers, masks as functions, loops -/
def zH {ρ : Type} (f : Option (ρ × zS)) (Q : ρ → zS → Prop) : Prop := ∃ r σ, f = some (r, σ) ∧ Q r σ
section ZH
variable {ρ α : Type} {c : Prop} {k k1 k2 : Option (ρ × zS)} {Q Q1 : ρ → zS → Prop}
theorem zH_ok {r : ρ} {σ : zS} (h : Q r σ) : zH (some (r, σ)) Q := ⟨r, σ, rfl, h⟩
theorem zH_okI {r : ρ} {σ : zS} : zH (some (r, σ)) Q ↔ Q r σ := ⟨fun ⟨r1, σ1, e, h⟩ => by cases e; exact h, zH_ok⟩
theorem zH_ckI {ic : Decidable c} : zH (@zck _ c ic k) Q ↔ c ∧ zH k Q := by
  unfold zck
  by_cases h : c
  · rw [if_pos h]; exact ⟨fun q => ⟨h, q⟩, fun q => q.2⟩
  · rw [if_neg h]; exact ⟨fun ⟨r1, σ1, e, _⟩ => (nomatch e), fun q => absurd q.1 h⟩
theorem zH_ck {ic : Decidable c} (hc : c) (h : zH k Q) : zH (@zck _ c ic k) Q := zH_ckI.mpr ⟨hc, h⟩
theorem zH_brI {ic : Decidable c} : zH (@zbr _ c ic k1 k2) Q ↔ (c → zH k1 Q) ∧ (¬ c → zH k2 Q) := by
  unfold zbr
  by_cases h : c
  · rw [if_pos h]; exact ⟨fun q => ⟨fun _ => q, fun z => absurd h z⟩, fun q => q.1 h⟩
  · rw [if_neg h]; exact ⟨fun q => ⟨fun z => absurd z h, fun _ => q⟩, fun q => q.2 h⟩
theorem zH_br {ic : Decidable c} (h1 : c → zH k1 Q) (h2 : ¬ c → zH k2 Q) : zH (@zbr _ c ic k1 k2) Q := zH_brI.mpr ⟨h1, h2⟩
theorem zH_t {ic : Decidable c} (hc : c) (h : zH k1 Q) : zH (@zbr _ c ic k1 k2) Q := zH_brI.mpr ⟨fun _ => h, fun z => absurd hc z⟩
theorem zH_f {ic : Decidable c} (hc : ¬ c) (h : zH k2 Q) : zH (@zbr _ c ic k1 k2) Q := zH_brI.mpr ⟨fun z => absurd z hc, fun _ => h⟩
theorem zH_lt {v : α} {g : α → Option (ρ × zS)} (h : zH (g v) Q) : zH (zlt v g) Q := h
theorem zH_bdI {f : Option (α × zS)} {g : α → zS → Option (ρ × zS)} : zH (zbd f g) Q ↔ zH f (fun r σ => zH (g r σ) Q) := by
  cases f with
  | none => exact ⟨fun ⟨_, _, e, _⟩ => (nomatch e), fun ⟨_, _, e, _⟩ => (nomatch e)⟩
  | some q => exact ⟨fun h => ⟨q.1, q.2, rfl, h⟩, fun ⟨r1, σ1, e, h⟩ => by cases e; exact h⟩
theorem zH_bd {f : Option (α × zS)} {g : α → zS → Option (ρ × zS)} (h : zH f (fun r σ => zH (g r σ) Q)) : zH (zbd f g) Q := zH_bdI.mpr h
theorem zH_mono {f : Option (ρ × zS)} (h : zH f Q1) (hq : ∀ r σ, Q1 r σ → Q r σ) : zH f Q := by
  obtain ⟨r, σ, e, h⟩ := h
  exact ⟨r, σ, e, hq r σ h⟩
theorem zH_call {f : Option (α × zS)} {g : α → zS → Option (ρ × zS)} {P : α → zS → Prop} (h : zH f P) (h2 : ∀ r σ, P r σ → zH (g r σ) Q) : zH (zbd f g) Q := zH_bd (zH_mono h h2)
theorem zH_eq {f : Option (α × zS)} {g : α → zS → Option (ρ × zS)} {r : α} {σ : zS} (e : f = some (r, σ)) (h : zH (g r σ) Q) : zH (zbd f g) Q := by
  subst e
  exact h
end ZH
theorem zck_t {α : Type} {c : Prop} {ic : Decidable c} {k : Option α} (h : c) : @zck _ c ic k = k := if_pos h
theorem zbr_t {α : Type} {c : Prop} {ic : Decidable c} {k1 k2 : Option α} (h : c) : @zbr _ c ic k1 k2 = k1 := if_pos h
theorem zbr_f {α : Type} {c : Prop} {ic : Decidable c} {k1 k2 : Option α} (h : ¬ c) : @zbr _ c ic k1 k2 = k2 := if_neg h
theorem zlt_e {α β : Type} (v : β) (k : β → Option α) : zlt v k = k v := rfl
theorem zbd_s {α β : Type} (r : β) (σ : zS) (k : β → zS → Option α) : zbd (some (r, σ)) k = k r σ := rfl
theorem zpi_1 (σ : zS) (a k : Nat) (v : Int32) (b j : Nat) : (zpi σ a k v).1 b j = if b = a ∧ j = k then v else σ.1 b j := rfl
theorem zpi_2 (σ : zS) (a k : Nat) (v : Int32) : (zpi σ a k v).2 = σ.2 := rfl
theorem zpi_ne (σ : zS) {a k b j : Nat} (v : Int32) (h : ¬ (b = a ∧ j = k)) : (zpi σ a k v).1 b j = σ.1 b j := if_neg h
theorem zpi_eq (σ : zS) (a k : Nat) (v : Int32) : (zpi σ a k v).1 a k = v := if_pos ⟨rfl, rfl⟩
/-- loops that count up, with fuel -/
theorem zup {P : Nat → Nat → Prop} (n : Nat) (hl : ∀ f, P (f + 1) n) (hs : ∀ f k, k < n → P f (k + 1) → P (f + 1) k) : ∀ k, k ≤ n → ∀ f, n - k < f → P f k := by
  have key : ∀ d k, k + d = n → ∀ f, d < f → P f k := by
    intro d
    induction d with
    | zero =>
      intro k hk f hf
      obtain ⟨g, rfl⟩ : ∃ g, f = g + 1 := ⟨f - 1, by omega⟩
      have : k = n := by omega
      subst this
      exact hl g
    | succ d ih =>
      intro k hk f hf
      obtain ⟨g, rfl⟩ : ∃ g, f = g + 1 := ⟨f - 1, by omega⟩
      exact hs g k (by omega) (ih (k + 1) (by omega) g (by omega))
  intro k hk f hf
  exact key (n - k) k (by omega) f (by omega)
/-! ints -/
theorem zlit (n : Nat) : (@OfNat.ofNat Int32 n _) = nI (@OfNat.ofNat Nat n _) := rfl
theorem nI_mul (a b : Nat) : nI a * nI b = nI (a * b) := (Int32.ofNat_mul a b).symm
theorem nI_sub {a b : Nat} (h : b ≤ a) : nI a - nI b = nI (a - b) := by
  have e : nI a = nI (a - b) + nI b := by rw [nI_add, Nat.sub_add_cancel h]
  rw [e]
  exact Int32.add_sub_cancel _ _
theorem zok_n {s : Nat} {g : Nat × Nat} {k : Nat} (h : g.1 = s) (hk : k < g.2) (hg : g.2 < 2 ^ 31) : zok s g (nI k) := ⟨h, by rw [nI_toInt (by omega)]; omega, by rw [nI_toInt (by omega)]; omega⟩
theorem zok_p {s n k : Nat} (hk : k < n) (hg : n < 2 ^ 31) : zok s (s, n) (nI k) := zok_n rfl hk hg
theorem nI_m1 {a : Nat} (h : a < 2 ^ 31) : ¬ nI a = -1 := fun e => by
  have := congrArg Int32.toInt e
  rw [nI_toInt h] at this
  have h2 : (-1 : Int32).toInt = -1 := by decide
  omega
theorem nI_m2 {a : Nat} (h : a < 2 ^ 31) : ¬ nI a = -2 := fun e => by
  have := congrArg Int32.toInt e
  rw [nI_toInt h] at this
  have h2 : (-2 : Int32).toInt = -2 := by decide
  omega
theorem zb_0 : zb (nI 0) := Or.inl rfl
theorem zb_1 : zb (nI 1) := Or.inr rfl
/-- a truth as an int; what may be nothing: -2, -1 -/
def bI (b : Bool) : Int32 := if b then 1 else 0
def oI : Option Nat → Int32
  | some k => nI k
  | none => -2
theorem bI_t : bI true = 1 := rfl
theorem bI_f : bI false = 0 := rfl
theorem bI_0 (b : Bool) : bI b = 0 ↔ b = false := by cases b <;> decide
theorem bI_1 (b : Bool) : bI b = 1 ↔ b = true := by cases b <;> decide
theorem bI_z (b : Bool) : zb (bI b) := by cases b <;> decide
theorem bI_nI (b : Bool) : bI b = nI (if b then 1 else 0) := by cases b <;> rfl
/-! masks -/
def mk (f : Nat → Bool) : Nat → Nat
  | 0 => 0
  | n + 1 => mk f n ||| (if f n then 2 ^ n else 0)
theorem mk_tb (f : Nat → Bool) (k : Nat) : ∀ n, (mk f n).testBit k = (decide (k < n) && f k)
  | 0 => by simp [mk]
  | n + 1 => by
    rw [mk, Nat.testBit_or, mk_tb f k n]
    by_cases h : k = n
    · subst h
      cases e : f k <;> simp [e]
    · have e1 : (if f n = true then 2 ^ n else 0).testBit k = false := by
        cases f n
        · simp
        · simp [Nat.testBit_two_pow, Ne.symm h]
      rw [e1, Bool.or_false]
      congr 1
      exact decide_eq_decide.mpr (by omega)
theorem mk_lt (f : Nat → Bool) (n : Nat) : mk f n < 2 ^ n := by
  apply Nat.lt_pow_two_of_testBit
  intro i hi
  rw [mk_tb, decide_eq_false (by omega), Bool.false_and]
theorem mk_of {a n : Nat} (h : a < 2 ^ n) : a = mk (fun k => a.testBit k) n := by
  apply Nat.eq_of_testBit_eq
  intro i
  rw [mk_tb]
  by_cases hi : i < n
  · simp [hi]
  · rw [decide_eq_false hi, Bool.false_and]
    exact Nat.testBit_lt_two_pow (Nat.lt_of_lt_of_le h (Nat.pow_le_pow_right (by decide) (by omega)))
theorem mk_cong {f g : Nat → Bool} {n : Nat} (h : ∀ k, k < n → f k = g k) : mk f n = mk g n := by
  apply Nat.eq_of_testBit_eq
  intro i
  rw [mk_tb, mk_tb]
  by_cases hi : i < n
  · rw [h i hi]
  · simp [hi]
theorem mk_inj {f g : Nat → Bool} {n : Nat} (h : mk f n = mk g n) : ∀ k, k < n → f k = g k := fun k hk => by
  have := congrArg (fun a => a.testBit k) h
  simpa [mk_tb, hk] using this
theorem mk_up {f : Nat → Bool} {m n : Nat} (hm : m ≤ n) (h : ∀ k, m ≤ k → k < n → f k = false) : mk f m = mk f n := by
  apply Nat.eq_of_testBit_eq
  intro i
  rw [mk_tb, mk_tb]
  by_cases hi : i < m
  · simp [hi, Nat.lt_of_lt_of_le hi hm]
  · by_cases h2 : i < n
    · simp [hi, h i (by omega) h2]
    · simp [hi, h2]
theorem mk_p31 {n : Nat} (h : n ≤ 30) (f : Nat → Bool) : mk f n < 2 ^ 31 := Nat.lt_of_lt_of_le (mk_lt f n) (Nat.pow_le_pow_right (by decide) (by omega))
/-- ints bit by bit -/
def bt (x : Int32) (i : Nat) : Bool := x.toBitVec.getLsbD i
theorem b_ext {x y : Int32} (h : ∀ i, i < 32 → bt x i = bt y i) : x = y := Int32.toBitVec_inj.mp (BitVec.eq_of_getLsbD_eq (fun i hi => h i hi))
theorem b_or (x y : Int32) (i : Nat) : bt (x ||| y) i = (bt x i || bt y i) := by unfold bt; rw [Int32.toBitVec_or, BitVec.getLsbD_or]
theorem b_and (x y : Int32) (i : Nat) : bt (x &&& y) i = (bt x i && bt y i) := by unfold bt; rw [Int32.toBitVec_and, BitVec.getLsbD_and]
theorem b_xor (x y : Int32) (i : Nat) : bt (x ^^^ y) i = (bt x i ^^ bt y i) := by unfold bt; rw [Int32.toBitVec_xor, BitVec.getLsbD_xor]
theorem b_m1 : ∀ i, i < 32 → bt (-1) i = true := by decide +kernel
theorem b_nI (a i : Nat) (hi : i < 32) : bt (nI a) i = a.testBit i := by
  show (BitVec.ofNat 32 a).getLsbD i = _
  rw [BitVec.getLsbD_ofNat]
  simp [hi]
theorem s_l : ∀ n, n < 32 → ((nI n &&& 31).toBitVec.smod 32).toNat = n := by decide +kernel
theorem b_sshr (n : Nat) (hn : n < 32) (x : Int32) {i : Nat} (hi : i < 32) : bt (x >>> (nI n &&& 31)) i = if n + i < 32 then bt x (n + i) else bt x 31 := by
  unfold bt
  rw [Int32.toBitVec_shiftRight]
  show (x.toBitVec.sshiftRight ((nI n &&& 31).toBitVec.smod 32).toNat).getLsbD i = _
  rw [s_l n hn, BitVec.getLsbD_sshiftRight, BitVec.msb_eq_getLsbD_last]
  simp [hi]
theorem nI_or (a b : Nat) : nI a ||| nI b = nI (a ||| b) := b_ext fun i hi => by rw [b_or, b_nI _ _ hi, b_nI _ _ hi, b_nI _ _ hi, Nat.testBit_or]
theorem nI_and (a b : Nat) : nI a &&& nI b = nI (a &&& b) := b_ext fun i hi => by rw [b_and, b_nI _ _ hi, b_nI _ _ hi, b_nI _ _ hi, Nat.testBit_and]
theorem nI_xor (a b : Nat) : nI a ^^^ nI b = nI (a ^^^ b) := b_ext fun i hi => by rw [b_xor, b_nI _ _ hi, b_nI _ _ hi, b_nI _ _ hi, Nat.testBit_xor]
theorem nI_shl1 : ∀ k, k < 32 → (1 : Int32) <<< (nI k &&& 31) = nI (2 ^ k) := by decide +kernel
theorem b_1 : ∀ i, i < 32 → bt 1 i = decide (i = 0) := by decide +kernel
theorem nI_get {a k : Nat} (ha : a < 2 ^ 31) (hk : k < 32) : (nI a >>> (nI k &&& 31)) &&& 1 = bI (a.testBit k) := b_ext fun i hi => by
  rw [b_and, b_1 i hi, b_sshr k hk _ hi]
  by_cases h0 : i = 0
  · subst h0
    rw [if_pos (by omega), b_nI _ _ (by omega), decide_eq_true rfl, Bool.and_true, Nat.add_zero]
    cases a.testBit k <;> decide
  · rw [decide_eq_false h0, Bool.and_false]
    cases a.testBit k
    · exact ((by decide +kernel : ∀ i, i < 32 → bt 0 i = false) i hi).symm
    · rw [bI_t, b_1 i hi, decide_eq_false h0]
theorem nI_andn {a b : Nat} (ha : a < 2 ^ 31) : nI a &&& (nI b ^^^ -1) = nI (a &&& (b ^^^ (2 ^ 32 - 1))) := b_ext fun i hi => by
  rw [b_and, b_xor, b_m1 i hi, b_nI _ _ hi, b_nI _ _ hi, b_nI _ _ hi, Nat.testBit_and, Nat.testBit_xor, Nat.testBit_two_pow_sub_one, decide_eq_true hi]
section MASK
variable {f g : Nat → Bool} {n k : Nat}
theorem m_get (hn : n ≤ 30) (hk : k < n) : (nI (mk f n) >>> (nI k &&& 31)) &&& 1 = bI (f k) := by
  rw [nI_get (mk_p31 hn f) (by omega), mk_tb, decide_eq_true hk, Bool.true_and]
theorem m_getg (hn : n ≤ 30) (hk : k < 32) : (nI (mk f n) >>> (nI k &&& 31)) &&& 1 = bI (decide (k < n) && f k) := by
  rw [nI_get (mk_p31 hn f) (by omega), mk_tb]
theorem m_set (hn : n ≤ 30) (hk : k < n) : nI (mk f n) ||| ((1 : Int32) <<< (nI k &&& 31)) = nI (mk (fun j => f j || decide (j = k)) n) := by
  rw [nI_shl1 k (by omega), nI_or]
  congr 1
  apply Nat.eq_of_testBit_eq
  intro i
  rw [Nat.testBit_or, mk_tb, mk_tb, Nat.testBit_two_pow]
  by_cases h : i = k
  · subst h; simp [hk]
  · simp [h, Ne.symm h]
theorem m_bit (hn : n ≤ 30) (hk : k < n) : (1 : Int32) <<< (nI k &&& 31) = nI (mk (fun j => decide (j = k)) n) := by
  rw [nI_shl1 k (by omega)]
  congr 1
  apply Nat.eq_of_testBit_eq
  intro i
  rw [mk_tb, Nat.testBit_two_pow]
  by_cases h : i = k
  · subst h; simp [hk]
  · simp [h, Ne.symm h]
theorem m_or : nI (mk f n) ||| nI (mk g n) = nI (mk (fun j => f j || g j) n) := by
  rw [nI_or]
  congr 1
  apply Nat.eq_of_testBit_eq
  intro i
  rw [Nat.testBit_or, mk_tb, mk_tb, mk_tb]
  cases decide (i < n) <;> simp
theorem m_and : nI (mk f n) &&& nI (mk g n) = nI (mk (fun j => f j && g j) n) := by
  rw [nI_and]
  congr 1
  apply Nat.eq_of_testBit_eq
  intro i
  rw [Nat.testBit_and, mk_tb, mk_tb, mk_tb]
  cases decide (i < n) <;> simp
theorem m_xor : nI (mk f n) ^^^ nI (mk g n) = nI (mk (fun j => f j ^^ g j) n) := by
  rw [nI_xor]
  congr 1
  apply Nat.eq_of_testBit_eq
  intro i
  rw [Nat.testBit_xor, mk_tb, mk_tb, mk_tb]
  cases decide (i < n) <;> simp
theorem m_andn (hn : n ≤ 30) : nI (mk f n) &&& (nI (mk g n) ^^^ -1) = nI (mk (fun j => f j && !g j) n) := by
  rw [nI_andn (mk_p31 hn f)]
  congr 1
  apply Nat.eq_of_testBit_eq
  intro i
  rw [Nat.testBit_and, Nat.testBit_xor, mk_tb, mk_tb, mk_tb, Nat.testBit_two_pow_sub_one]
  by_cases h : i < n
  · simp [h, show i < 32 by omega]
  · simp [h]
theorem m_0 (hn : n ≤ 30) : nI (mk f n) = 0 ↔ ∀ j, j < n → f j = false := by
  rw [show (0 : Int32) = nI 0 from rfl, nI_eq (mk_p31 hn f) (by decide)]
  constructor
  · intro h j hj
    have := congrArg (fun a => a.testBit j) h
    simpa [mk_tb, hj] using this
  · intro h
    apply Nat.eq_of_testBit_eq
    intro i
    rw [mk_tb]
    by_cases hi : i < n
    · simp [h i hi]
    · simp [hi]
theorem mk_0 : mk f 0 = 0 := rfl
theorem mk_e (n : Nat) : mk (fun _ => false) n = 0 := by
  apply Nat.eq_of_testBit_eq
  intro i
  rw [mk_tb]
  simp
theorem mk_st (h : f n = true) : mk f (n + 1) = mk f n ||| 2 ^ n := by rw [mk, if_pos h]
theorem mk_sf (h : f n = false) : mk f (n + 1) = mk f n := by rw [mk, if_neg (by rw [h]; decide), Nat.or_zero]
/-- a loop's step that puts a bit, or not -/
theorem m_step (hn : n < 30) (h : f n = true) : nI (mk f n) ||| ((1 : Int32) <<< (nI n &&& 31)) = nI (mk f (n + 1)) := by
  rw [nI_shl1 n (by omega), nI_or, mk_st h]
end MASK
/-- how many -/
def ct (f : Nat → Bool) : Nat → Nat
  | 0 => 0
  | n + 1 => ct f n + (if f n then 1 else 0)
theorem ct_le (f : Nat → Bool) : ∀ n, ct f n ≤ n
  | 0 => Nat.le_refl 0
  | n + 1 => by
    have := ct_le f n
    rw [ct]
    split <;> omega
theorem ct_cong {f g : Nat → Bool} : ∀ {n : Nat}, (∀ k, k < n → f k = g k) → ct f n = ct g n
  | 0, _ => rfl
  | n + 1, h => by rw [ct, ct, h n (by omega), ct_cong (fun k hk => h k (by omega))]
def bc32 (x0 : Int32) : Int32 :=
  let v1 := x0 - (((x0.toUInt32 >>> ((1 : Int32).toUInt32 &&& Int32.toUInt32 31)).toInt32) &&& (1431655765 : Int32))
  let v2 := (v1 &&& (858993459 : Int32)) + (((v1.toUInt32 >>> ((2 : Int32).toUInt32 &&& Int32.toUInt32 31)).toInt32) &&& (858993459 : Int32))
  let v3 := (v2 + ((v2.toUInt32 >>> ((4 : Int32).toUInt32 &&& Int32.toUInt32 31)).toInt32)) &&& (252645135 : Int32)
  let v4 := v3 + ((v3.toUInt32 >>> ((8 : Int32).toUInt32 &&& Int32.toUInt32 31)).toInt32)
  let v5 := v4 + ((v4.toUInt32 >>> ((16 : Int32).toUInt32 &&& Int32.toUInt32 31)).toInt32)
  v5 &&& (63 : Int32)
theorem bc_e (w : zW) (x : Int32) (σ : zS) : f_J6_bitCount w x σ = some (bc32 x, σ) := rfl
theorem bc_256 : ∀ a, a < 256 → bc32 (nI a) = nI (ct (fun k => a.testBit k) 8) := by decide +kernel
theorem bc_m (w : zW) (f : Nat → Bool) {n : Nat} (hn : n ≤ 8) (σ : zS) : f_J6_bitCount w (nI (mk f n)) σ = some (nI (ct f n), σ) := by
  have h1 : mk f n < 256 := Nat.lt_of_lt_of_le (mk_lt f n) (show 2 ^ n ≤ 2 ^ 8 from Nat.pow_le_pow_right (by decide) hn)
  rw [bc_e, bc_256 _ h1]
  congr 2
  have key : ∀ d, ct (fun k => (mk f n).testBit k) (n + d) = ct f n := by
    intro d
    induction d with
    | zero => exact ct_cong (fun k hk => by rw [mk_tb, decide_eq_true (show k < n from hk), Bool.true_and])
    | succ d ih => rw [← Nat.add_assoc, ct, ih, mk_tb, decide_eq_false (by omega)]; rfl
  have := key (8 - n)
  rw [show n + (8 - n) = 8 by omega] at this
  rw [this]
