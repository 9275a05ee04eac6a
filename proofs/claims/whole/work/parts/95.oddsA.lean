/-! chances: sums over sets of lines, lowest terms -/
theorem sm_add (f : Nat → Nat) (a : Nat) : ∀ b, sm f (a + b) = sm f a + sm (fun k => f (a + k)) b
  | 0 => rfl
  | b + 1 => by
    rw [← Nat.add_assoc, sm, sm_add f a b, sm, Nat.add_assoc]
theorem sm_mul (c : Nat) (f : Nat → Nat) : ∀ n, sm (fun k => c * f k) n = c * sm f n
  | 0 => rfl
  | n + 1 => by rw [sm, sm, sm_mul c f n, Nat.mul_add]
theorem sm_z {f : Nat → Nat} : ∀ {n : Nat}, (∀ k, k < n → f k = 0) → sm f n = 0
  | 0, _ => rfl
  | n + 1, h => by rw [sm, sm_z (fun k hk => h k (by omega)), h n (by omega)]
def pt (S : Nat → Bool) (k : Nat) (b : Bool) : Nat → Bool := fun j => if j = k then b else S j
def Ew (q : Nat → Bool) (w v : Nat) (P : (Nat → Bool) → Bool) : Nat → (Nat → Bool) → Nat
  | 0, S => if P S then 1 else 0
  | k + 1, S => if q k then w * Ew q w v P k (pt S k false) + v * Ew q w v P k (pt S k true) else Ew q w v P k (pt S k false)
def gD (q : Nat → Bool) (w v : Nat) (P : (Nat → Bool) → Bool) (k : Nat) (S : Nat → Bool) (d : Nat) : Nat := if (al (fun j => !(d.testBit j && !q j)) k && P (fun j => if j < k then d.testBit j else S j)) = true then w ^ ct (fun j => q j && !d.testBit j) k * v ^ ct (fun j => d.testBit j) k else 0
section EW
variable {q : Nat → Bool} {w v : Nat} {P : (Nat → Bool) → Bool}
theorem hi_0 {k d : Nat} (hd : d < 2 ^ k) : d.testBit k = false := Nat.testBit_lt_two_pow hd
theorem hi_1 {k d : Nat} (hd : d < 2 ^ k) : (2 ^ k + d).testBit k = true := by rw [Nat.testBit_two_pow_add_eq, hi_0 hd]; rfl
theorem hi_l {k d j : Nat} (hj : j < k) : (2 ^ k + d).testBit j = d.testBit j := Nat.testBit_two_pow_add_gt hj d
theorem Ew_dry : ∀ (k : Nat) (S : Nat → Bool), sm (gD q w v P k S) (2 ^ k) = Ew q w v P k S
  | 0, S => by
    show 0 + gD q w v P 0 S 0 = _
    rw [Nat.zero_add]
    unfold gD
    show (if P (fun j => if j < 0 then Nat.testBit 0 j else S j) = true then 1 * 1 else 0) = if P S = true then 1 else 0
    rw [show (fun j => if j < 0 then Nat.testBit 0 j else S j) = S from funext fun j => if_neg (Nat.not_lt_zero j)]
  | k + 1, S => by
    have lo : ∀ d, d < 2 ^ k → gD q w v P (k + 1) S d = (if q k then w else 1) * gD q w v P k (pt S k false) d := by
      intro d hd
      unfold gD
      have e1 : al (fun j => !(d.testBit j && !q j)) (k + 1) = al (fun j => !(d.testBit j && !q j)) k := by
        rw [al, hi_0 hd]; simp
      have e2 : (fun j => if j < k + 1 then d.testBit j else S j) = (fun j => if j < k then d.testBit j else pt S k false j) := funext fun j => by
        unfold pt
        by_cases z : j = k
        · subst z; rw [if_pos (by omega), if_neg (by omega), if_pos rfl]; exact hi_0 hd
        · by_cases y : j < k
          · rw [if_pos (by omega), if_pos y]
          · rw [if_neg (by omega), if_neg y, if_neg z]
      rw [e1, e2, ct, ct, hi_0 hd]
      by_cases c : (al (fun j => !(d.testBit j && !q j)) k && P (fun j => if j < k then d.testBit j else pt S k false j)) = true
      · rw [if_pos c, if_pos c]
        cases q k
        · simp
        · simp [Nat.pow_succ, Nat.mul_comm, Nat.mul_left_comm]
      · rw [if_neg c, if_neg c, Nat.mul_zero]
    have hi : ∀ d, d < 2 ^ k → gD q w v P (k + 1) S (2 ^ k + d) = (if q k then v else 0) * gD q w v P k (pt S k true) d := by
      intro d hd
      unfold gD
      have e1 : al (fun j => !((2 ^ k + d).testBit j && !q j)) (k + 1) = (al (fun j => !(d.testBit j && !q j)) k && q k) := by
        rw [al, hi_1 hd, al_cong (fun j hj => by rw [hi_l hj])]; simp
      have e2 : (fun j => if j < k + 1 then (2 ^ k + d).testBit j else S j) = (fun j => if j < k then d.testBit j else pt S k true j) := funext fun j => by
        unfold pt
        by_cases z : j = k
        · subst z; rw [if_pos (by omega), if_neg (by omega), if_pos rfl]; exact hi_1 hd
        · by_cases y : j < k
          · rw [if_pos (by omega), if_pos y, hi_l y]
          · rw [if_neg (by omega), if_neg y, if_neg z]
      rw [e1, e2, ct, ct, hi_1 hd, ct_cong (f := fun j => q j && !(2 ^ k + d).testBit j) (g := fun j => q j && !d.testBit j) (fun j hj => by rw [hi_l hj]), ct_cong (f := fun j => (2 ^ k + d).testBit j) (g := fun j => d.testBit j) (fun j hj => hi_l hj)]
      cases q k
      · simp
      · rw [Bool.and_true]
        by_cases c : (al (fun j => !(d.testBit j && !q j)) k && P (fun j => if j < k then d.testBit j else pt S k true j)) = true
        · rw [if_pos c, if_pos c]
          simp [Nat.pow_succ, Nat.mul_comm, Nat.mul_left_comm, Nat.mul_assoc]
        · rw [if_neg c, if_neg c, Nat.mul_zero]
    rw [Nat.pow_succ, Nat.mul_two, sm_add, sm_cong lo, sm_cong hi, sm_mul, sm_mul, Ew_dry k, Ew_dry k, Ew]
    cases q k <;> simp
def wt (q : Nat → Bool) (w v s : Nat) : Nat → Nat
  | 0 => 1
  | k + 1 => wt q w v s k * (if q k then (if s.testBit k then w else v) else 1)
theorem wt_cong {s t : Nat} : ∀ {k : Nat}, (∀ j, j < k → s.testBit j = t.testBit j) → wt q w v s k = wt q w v t k
  | 0, _ => rfl
  | k + 1, h => by rw [wt, wt, wt_cong (fun j hj => h j (by omega)), h k (by omega)]
def gW (q : Nat → Bool) (w v : Nat) (P : (Nat → Bool) → Bool) (k : Nat) (S : Nat → Bool) (s : Nat) : Nat := if (al (fun j => !(s.testBit j && !q j)) k && P (fun j => if j < k then q j && !s.testBit j else S j)) = true then wt q w v s k else 0
theorem Ew_wet : ∀ (k : Nat) (S : Nat → Bool), sm (gW q w v P k S) (2 ^ k) = Ew q w v P k S
  | 0, S => by
    show 0 + gW q w v P 0 S 0 = _
    rw [Nat.zero_add]
    unfold gW
    show (if P (fun j => if j < 0 then q j && !Nat.testBit 0 j else S j) = true then 1 else 0) = if P S = true then 1 else 0
    rw [show (fun j => if j < 0 then q j && !Nat.testBit 0 j else S j) = S from funext fun j => if_neg (Nat.not_lt_zero j)]
  | k + 1, S => by
    have lo : ∀ d, d < 2 ^ k → gW q w v P (k + 1) S d = (if q k then v else 1) * gW q w v P k (pt S k (q k)) d := by
      intro d hd
      unfold gW
      have e1 : al (fun j => !(d.testBit j && !q j)) (k + 1) = al (fun j => !(d.testBit j && !q j)) k := by
        rw [al, hi_0 hd]; simp
      have e2 : (fun j => if j < k + 1 then q j && !d.testBit j else S j) = (fun j => if j < k then q j && !d.testBit j else pt S k (q k) j) := funext fun j => by
        unfold pt
        by_cases z : j = k
        · subst z; rw [if_pos (by omega), if_neg (by omega), if_pos rfl, hi_0 hd]; simp
        · by_cases y : j < k
          · rw [if_pos (by omega), if_pos y]
          · rw [if_neg (by omega), if_neg y, if_neg z]
      rw [e1, e2, wt, hi_0 hd]
      by_cases c : (al (fun j => !(d.testBit j && !q j)) k && P (fun j => if j < k then q j && !d.testBit j else pt S k (q k) j)) = true
      · rw [if_pos c, if_pos c, Nat.mul_comm]
        cases q k <;> rfl
      · rw [if_neg c, if_neg c, Nat.mul_zero]
    have hi : ∀ d, d < 2 ^ k → gW q w v P (k + 1) S (2 ^ k + d) = (if q k then w else 0) * gW q w v P k (pt S k false) d := by
      intro d hd
      unfold gW
      have e1 : al (fun j => !((2 ^ k + d).testBit j && !q j)) (k + 1) = (al (fun j => !(d.testBit j && !q j)) k && q k) := by
        rw [al, hi_1 hd, al_cong (fun j hj => by rw [hi_l hj])]; simp
      have e2 : (fun j => if j < k + 1 then q j && !(2 ^ k + d).testBit j else S j) = (fun j => if j < k then q j && !d.testBit j else pt S k false j) := funext fun j => by
        unfold pt
        by_cases z : j = k
        · subst z; rw [if_pos (by omega), if_neg (by omega), if_pos rfl, hi_1 hd]; simp
        · by_cases y : j < k
          · rw [if_pos (by omega), if_pos y, hi_l y]
          · rw [if_neg (by omega), if_neg y, if_neg z]
      rw [e1, e2, wt, hi_1 hd, wt_cong (fun j hj => hi_l hj)]
      cases q k
      · simp
      · rw [Bool.and_true]
        by_cases c : (al (fun j => !(d.testBit j && !q j)) k && P (fun j => if j < k then q j && !d.testBit j else pt S k false j)) = true
        · rw [if_pos c, if_pos c, Nat.mul_comm]; rfl
        · rw [if_neg c, if_neg c, Nat.mul_zero]
    rw [Nat.pow_succ, Nat.mul_two, sm_add, sm_cong lo, sm_cong hi, sm_mul, sm_mul, Ew_wet k, Ew_wet k, Ew]
    cases q k
    · simp
    · simp [Nat.add_comm]
theorem Ew_cong {Z : Nat → Bool} (hP : ∀ S S' : Nat → Bool, (∀ j, Z j = true → S j = S' j) → P S = P S') : ∀ (k : Nat) (S S' : Nat → Bool), (∀ j, k ≤ j → Z j = true → S j = S' j) → Ew q w v P k S = Ew q w v P k S'
  | 0, S, S', h => by rw [Ew, Ew, hP S S' (fun j hj => h j (Nat.zero_le _) hj)]
  | k + 1, S, S', h => by
    have hb : ∀ b, Ew q w v P k (pt S k b) = Ew q w v P k (pt S' k b) := fun b => Ew_cong hP k _ _ (fun j hj hz => by
      unfold pt
      by_cases z : j = k
      · rw [if_pos z, if_pos z]
      · rw [if_neg z, if_neg z]; exact h j (by omega) hz)
    rw [Ew, Ew, hb, hb]
theorem Ew_fac {Z : Nat → Bool} (hP : ∀ S S' : Nat → Bool, (∀ j, Z j = true → S j = S' j) → P S = P S') : ∀ (k : Nat) (S : Nat → Bool), Ew q w v P k S = Ew (fun j => q j && Z j) w v P k S * (w + v) ^ ct (fun j => q j && !Z j) k
  | 0, S => by
    show Ew q w v P 0 S = Ew (fun j => q j && Z j) w v P 0 S * 1
    rw [Nat.mul_one]; rfl
  | k + 1, S => by
    have i1 := Ew_fac hP k (pt S k false)
    have i2 := Ew_fac hP k (pt S k true)
    rw [Ew, Ew, ct]
    cases e1 : q k
    · simp only [Bool.false_and, Bool.false_eq_true, if_false, Nat.add_zero]
      exact i1
    · cases e2 : Z k
      · have hc : Ew q w v P k (pt S k true) = Ew q w v P k (pt S k false) := Ew_cong hP k _ _ (fun j hj hz => by
          unfold pt
          by_cases z : j = k
          · subst z; rw [e2] at hz; cases hz
          · rw [if_neg z, if_neg z])
        rw [hc, i1]
        simp only [Bool.true_and, Bool.and_false, Bool.not_false, Bool.false_eq_true, if_false, if_true, Nat.pow_succ]
        rw [← Nat.add_mul, Nat.mul_comm (w + v), Nat.mul_assoc]
      · rw [i1, i2]
        simp only [Bool.and_self, Bool.not_true, Bool.and_false, Bool.false_eq_true, if_false, if_true, Nat.add_zero]
        rw [Nat.add_mul, Nat.mul_assoc, Nat.mul_assoc]
theorem Ew_le : ∀ (k : Nat) (S : Nat → Bool), Ew q w v P k S ≤ (w + v) ^ ct q k
  | 0, S => by
    rw [Ew]
    split
    · exact Nat.le_refl _
    · exact Nat.zero_le _
  | k + 1, S => by
    have i1 := Ew_le k (pt S k false)
    have i2 := Ew_le k (pt S k true)
    rw [Ew, ct]
    cases q k
    · simpa using i1
    · simp only [if_true, Nat.pow_succ]
      rw [Nat.mul_comm _ (w + v), Nat.add_mul]
      exact Nat.add_le_add (Nat.mul_le_mul_left _ i1) (Nat.mul_le_mul_left _ i2)
theorem Ew_q {q' : Nat → Bool} : ∀ (k : Nat) (S : Nat → Bool), (∀ j, j < k → q j = q' j) → Ew q w v P k S = Ew q' w v P k S
  | 0, _, _ => rfl
  | k + 1, S, h => by rw [Ew, Ew, h k (by omega), Ew_q k _ (fun j hj => h j (by omega)), Ew_q k _ (fun j hj => h j (by omega))]
theorem Ew_up {n : Nat} : ∀ d, (∀ j, n ≤ j → j < n + d → q j = false) → Ew q w v P (n + d) (fun _ => false) = Ew q w v P n (fun _ => false)
  | 0, _ => rfl
  | d + 1, h => by
    rw [← Nat.add_assoc, Ew, h (n + d) (by omega) (by omega), if_neg (by decide), show pt (fun _ => false) (n + d) false = fun _ => false from funext fun j => by unfold pt; split <;> rfl]
    exact Ew_up d (fun j h1 h2 => h j h1 (by omega))
end EW
theorem ct_split (q Z : Nat → Bool) : ∀ n, ct q n = ct (fun j => q j && Z j) n + ct (fun j => q j && !Z j) n
  | 0 => rfl
  | n + 1 => by
    rw [ct, ct, ct, ct_split q Z n]
    cases q n <;> cases Z n <;> simp <;> omega
theorem ct_w {F : Nat → Bool} {n : Nat} (h : n ≤ 8) : ct F n = ct (fun k => decide (k < n) && F k) 8 := by
  have key : ∀ d, ct (fun k => decide (k < n) && F k) (n + d) = ct F n := by
    intro d
    induction d with
    | zero => exact ct_cong (fun k hk => by rw [decide_eq_true (show k < n from hk), Bool.true_and])
    | succ d ih => rw [← Nat.add_assoc, ct, ih, decide_eq_false (by omega)]; rfl
  have := key (8 - n)
  rw [show n + (8 - n) = 8 by omega] at this
  exact this.symm
/-! lowest terms -/
theorem lg_0 {x : Nat} (hx : x < 2 ^ 63) : lg_cmp (lN x) 0 = 0 ↔ x = 0 := by
  unfold lg_cmp
  by_cases z : x = 0
  · subst z
    rw [if_neg (by decide), if_pos (by rfl)]
    simp
  · rw [if_pos (show lN x > 0 from (pk_lLT (a := 0) (by decide) hx).mpr (by omega))]
    exact ⟨fun e => absurd e (by decide), fun e => absurd e z⟩
theorem lN_ne0 {x : Nat} (hx : x < 2 ^ 63) (h : 0 < x) : ¬ lN x = 0 := fun e => by
  have := (pk_lEQ (b := 0) hx (by decide)).mp e
  omega
theorem mod_half {y r : Nat} (h0 : 0 < r) (h : r < y) : 2 * (y % r) < y := by
  have h1 := Nat.mod_lt y h0
  have h2 := Nat.div_add_mod y r
  have h3 : 1 ≤ y / r := (Nat.le_div_iff_mul_le h0).mpr (by omega)
  have h4 : r * 1 ≤ r * (y / r) := Nat.mul_le_mul_left r h3
  omega
theorem gcd_step (x y : Nat) : Nat.gcd y (x % y) = Nat.gcd x y := by
  rw [Nat.gcd_comm y, Nat.gcd_comm x, Nat.gcd_rec y x]
def fnL (x0 x2 : Int64) (x4 : Int32) (g : Nat) (σ : zS) : Option (Int64 × zS) := zbr (x4 = 0) (zck (¬ lN g = 0) (some (x0 / lN g, σ))) (zck (¬ lN g = 0) (some (x2 / lN g, σ)))
theorem M_lowest6 (x0 x2 : Int64) (x4 : Int32) (σ : zS) : ∀ (n x y : Nat), y < 2 ^ n → n ≤ 63 → x < 2 ^ 63 → ∀ f, 2 * n + 1 ≤ f → f_X11_lowest_6 f x0 x2 x4 (lN x) (lN y) σ = fnL x0 x2 x4 (Nat.gcd x y) σ := by
  intro n
  induction n with
  | zero =>
    intro x y hy _ hx f hf
    have : y = 0 := by omega
    subst this
    obtain ⟨f, rfl⟩ : ∃ g, f = g + 1 := ⟨f - 1, by omega⟩
    rw [f_X11_lowest_6, zbr_t ((lg_0 (by omega)).mpr rfl), Nat.gcd_zero_right]
    rfl
  | succ n ih =>
    intro x y hy hn hx f hf
    have hp : (2 : Nat) ^ (n + 1) ≤ 2 ^ 63 := Nat.pow_le_pow_right (by decide) hn
    obtain ⟨f, rfl⟩ : ∃ g, f = g + 2 := ⟨f - 2, by omega⟩
    by_cases z : y = 0
    · subst z
      rw [f_X11_lowest_6, zbr_t ((lg_0 (by omega)).mpr rfl), Nat.gcd_zero_right]
      rfl
    · have hr := Nat.mod_lt x (show 0 < y by omega)
      rw [f_X11_lowest_6, zbr_f (fun e => z ((lg_0 (by omega)).mp e)), zck_t (lN_ne0 (by omega) (by omega)), pk_lRem hx (by omega) (by omega), zlt_e, zlt_e, zlt_e, f_X11_lowest_6]
      by_cases z2 : x % y = 0
      · rw [z2, zbr_t ((lg_0 (by omega)).mpr rfl), ← gcd_step, z2, Nat.gcd_zero_right]
        rfl
      · have hh := mod_half (show 0 < x % y by omega) hr
        have hp2 : (2 : Nat) ^ (n + 1) = 2 ^ n * 2 := Nat.pow_succ 2 n
        rw [zbr_f (fun e => z2 ((lg_0 (by omega)).mp e)), zck_t (lN_ne0 (by omega) (by omega)), pk_lRem (by omega) (by omega) (by omega), zlt_e, zlt_e, zlt_e, ih _ _ (by omega) (by omega) (by omega) f (by omega), gcd_step, gcd_step]
theorem M_lowest {u d : Nat} (hu : u < 2 ^ 63) (hd : d < 2 ^ 63) (h0 : 0 < d) (x4 : Int32) (σ : zS) : f_X11_lowest (lN u) (lN d) x4 σ = some (lN ((if x4 = 0 then u else d) / Nat.gcd d u), σ) := by
  have hg : 0 < Nat.gcd d u := Nat.gcd_pos_of_pos_left u h0
  have hg2 : Nat.gcd d u ≤ d := Nat.gcd_le_left u h0
  unfold f_X11_lowest
  rw [zlt_e, zlt_e, M_lowest6 _ _ _ _ 63 d u hu (by omega) hd FU (by unfold FU; omega)]
  unfold fnL
  by_cases z : x4 = 0
  · rw [zbr_t z, if_pos z, zck_t (lN_ne0 (by omega) hg), pk_lDiv hu hg (by omega)]
  · rw [zbr_f z, if_neg z, zck_t (lN_ne0 (by omega) hg), pk_lDiv hd hg (by omega)]
theorem C_part9 (x0 x2 : Int64) (x4 : Int32) (σ : zS) : ∀ (n x y : Nat), y < 2 ^ n → n ≤ 63 → x < 2 ^ 63 → ∀ f i, 2 * n + 1 ≤ f → i + 2 * n ≤ 200 → f_X10_partOf_9 f x0 x2 x4 (lN x) (lN y) (nI i) σ = f_X10_partOf_45 x0 x2 x4 (lN (Nat.gcd x y)) σ := by
  intro n
  induction n with
  | zero =>
    intro x y hy _ hx f i hf hi
    have : y = 0 := by omega
    subst this
    obtain ⟨f, rfl⟩ : ∃ g, f = g + 1 := ⟨f - 1, by omega⟩
    rw [f_X10_partOf_9, zbr_t (c := lg_cmp (lN 0) 0 = 0) ((lg_0 (by omega)).mpr rfl), Nat.gcd_zero_right]
    by_cases q : 200 ≤ i
    · rw [zbr_t (show (200 : Int32) ≤ nI i from nI_le (a := 200) q (by omega))]
    · rw [zbr_f (show ¬ (200 : Int32) ≤ nI i from nI_ge (b := 200) (by omega) (by decide))]
  | succ n ih =>
    intro x y hy hn hx f i hf hi
    have hp : (2 : Nat) ^ (n + 1) ≤ 2 ^ 63 := Nat.pow_le_pow_right (by decide) hn
    obtain ⟨f, rfl⟩ : ∃ g, f = g + 2 := ⟨f - 2, by omega⟩
    rw [f_X10_partOf_9, zbr_f (show ¬ (200 : Int32) ≤ nI i from nI_ge (b := 200) (by omega) (by decide))]
    by_cases z : y = 0
    · subst z
      rw [zbr_t ((lg_0 (by omega)).mpr rfl), Nat.gcd_zero_right]
    · have hr := Nat.mod_lt x (show 0 < y by omega)
      rw [zbr_f (fun e => z ((lg_0 (by omega)).mp e)), zck_t (lN_ne0 (by omega) (by omega)), pk_lRem hx (by omega) (by omega), zlt_e, zlt_e, zlt_e, zlt_e, nI_1, f_X10_partOf_9, zbr_f (show ¬ (200 : Int32) ≤ nI (i + 1) from nI_ge (b := 200) (by omega) (by decide))]
      by_cases z2 : x % y = 0
      · rw [z2, zbr_t ((lg_0 (by omega)).mpr rfl), ← gcd_step, z2, Nat.gcd_zero_right]
      · have hh := mod_half (show 0 < x % y by omega) hr
        have hp2 : (2 : Nat) ^ (n + 1) = 2 ^ n * 2 := Nat.pow_succ 2 n
        rw [zbr_f (fun e => z2 ((lg_0 (by omega)).mp e)), zck_t (lN_ne0 (by omega) (by omega)), pk_lRem (by omega) (by omega) (by omega), zlt_e, zlt_e, zlt_e, zlt_e, nI_1, ih _ _ (by omega) (by omega) (by omega) f (i + 1 + 1) (by omega) (by omega), gcd_step, gcd_step]
theorem C_partOf {u d : Nat} (hu : u < 2 ^ 63) (hd : d < 2 ^ 63) (h0 : 0 < d) (x4 : Int32) (σ : zS) : f_X10_partOf (lN u) (lN d) x4 σ = some (lN ((if x4 = 0 then u else d) / Nat.gcd d u), σ) := by
  have hg : 0 < Nat.gcd d u := Nat.gcd_pos_of_pos_left u h0
  have hg2 : Nat.gcd d u ≤ d := Nat.gcd_le_left u h0
  unfold f_X10_partOf
  rw [zlt_e, zlt_e, zlt_e]
  have := C_part9 (lN u) (lN d) x4 σ 63 d u hu (by omega) hd FU 0 (by unfold FU; omega) (by omega)
  refine Eq.trans this ?_
  unfold f_X10_partOf_45
  rw [zbr_f (fun e => by have := (lg_0 (by omega)).mp e; omega)]
  by_cases z : x4 = 0
  · rw [zbr_t z, if_pos z, zck_t (lN_ne0 (by omega) hg), pk_lDiv hu hg (by omega)]
  · rw [zbr_f z, if_neg z, zck_t (lN_ne0 (by omega) hg), pk_lDiv hd hg (by omega)]
theorem low_mul (u d c : Nat) (hc : 0 < c) (b : Int32) : (if b = 0 then u * c else d * c) / Nat.gcd (d * c) (u * c) = (if b = 0 then u else d) / Nat.gcd d u := by
  rw [Nat.gcd_mul_right]
  by_cases z : b = 0
  · rw [if_pos z, if_pos z, Nat.mul_div_mul_right _ _ hc]
  · rw [if_neg z, if_neg z, Nat.mul_div_mul_right _ _ hc]
