/-! turn, weakest: the fewest, of them the first -/
def bmn (Q : Nat → Bool) (c : Nat → Nat) : Nat → Option Nat
  | 0 => none
  | n + 1 => if Q n && (match bmn Q c n with | none => true | some s => decide (c n < c s)) then some n else bmn Q c n
theorem bmn_iff {Q : Nat → Bool} {c : Nat → Nat} : ∀ n, (bmn Q c n = none → ∀ t, t < n → Q t = false) ∧ ∀ s, bmn Q c n = some s → s < n ∧ Q s = true ∧ (∀ t, t < n → Q t = true → c s ≤ c t) ∧ ∀ t, t < s → Q t = true → c s < c t
  | 0 => ⟨fun _ t h => absurd h (Nat.not_lt_zero t), fun s h => by cases h⟩
  | n + 1 => by
    obtain ⟨ih1, ih2⟩ := bmn_iff (Q := Q) (c := c) n
    rw [bmn]
    cases e : bmn Q c n with
    | none =>
      have ih1 := ih1 e
      simp only [Bool.and_true]
      by_cases q : Q n = true
      · rw [if_pos q]
        refine ⟨fun h => (nomatch h), fun s h => ?_⟩
        cases h
        refine ⟨by omega, q, fun t ht hq => ?_, fun t ht hq => ?_⟩
        · by_cases z : t = n
          · subst z; exact Nat.le_refl _
          · rw [ih1 t (by omega)] at hq; cases hq
        · rw [ih1 t ht] at hq; cases hq
      · rw [if_neg q]
        refine ⟨fun _ t ht => ?_, fun s h => (nomatch h)⟩
        by_cases z : t = n
        · subst z; exact Bool.eq_false_iff.mpr q
        · exact ih1 t (by omega)
    | some b =>
      obtain ⟨b1, b2, b3, b4⟩ := ih2 b e
      by_cases q : (Q n && decide (c n < c b)) = true
      · rw [if_pos q]
        rw [Bool.and_eq_true, decide_eq_true_eq] at q
        refine ⟨fun h => (nomatch h), fun s h => ?_⟩
        cases h
        refine ⟨by omega, q.1, fun t ht hq => ?_, fun t ht hq => ?_⟩
        · by_cases z : t = n
          · subst z; exact Nat.le_refl _
          · have := b3 t (by omega) hq; omega
        · have := b3 t ht hq; omega
      · rw [if_neg q]
        refine ⟨fun h => (nomatch h), fun s h => ?_⟩
        cases h
        refine ⟨by omega, b2, fun t ht hq => ?_, b4⟩
        by_cases z : t = n
        · subst z
          rcases Nat.lt_or_ge (c t) (c b) with y | y
          · exact absurd (by rw [hq, decide_eq_true y]; rfl) q
          · exact y
        · exact b3 t (by omega) hq
theorem bmn_some {Q : Nat → Bool} {c : Nat → Nat} {n s : Nat} (h1 : s < n) (h2 : Q s = true) (h3 : ∀ t, t < n → Q t = true → c s ≤ c t) (h4 : ∀ t, t < s → Q t = true → c s < c t) : bmn Q c n = some s := by
  cases e : bmn Q c n with
  | none => have := (bmn_iff n).1 e s h1; rw [h2] at this; cases this
  | some b =>
    obtain ⟨b1, b2, b3, b4⟩ := (bmn_iff n).2 b e
    congr 1
    rcases Nat.lt_trichotomy s b with q | q | q
    · have := b4 s q h2; have := h3 b b1 b2; omega
    · exact q.symm
    · have := h4 b q b2; have := b3 s h1 h2; omega
theorem bmn_cong {Q Q' : Nat → Bool} {c c' : Nat → Nat} {n : Nat} (h : ∀ k, k < n → Q k = Q' k) (hc : ∀ k, k < n → c k = c' k) : bmn Q c n = bmn Q' c' n := by
  cases e : bmn Q' c' n with
  | none =>
    cases e2 : bmn Q c n with
    | none => rfl
    | some s =>
      obtain ⟨b1, b2, -⟩ := (bmn_iff n).2 s e2
      have := (bmn_iff n).1 e s b1
      rw [← h s b1, b2] at this; cases this
  | some s =>
    obtain ⟨b1, b2, b3, b4⟩ := (bmn_iff n).2 s e
    refine bmn_some b1 (by rw [h s b1]; exact b2) (fun t ht hq => ?_) (fun t ht hq => ?_)
    · rw [hc s b1, hc t ht]; exact b3 t ht (by rw [← h t ht]; exact hq)
    · rw [hc s b1, hc t (by omega)]; exact b4 t ht (by rw [← h t (by omega)]; exact hq)
def cS (s : Nat) : Nat := ct (fun k => s.testBit k) 8
def bmf (c : Nat → Nat) : Option Nat → Nat
  | none => 9
  | some s => c s
/-- without the lines of s the matter is otherwise -/
def tq (A B : Nat → Nat) (m s : Nat) : Bool := !decide (vr A B m (fun k => rd B k && !s.testBit k) = vr A B m (rd B))
def sub8 (s : Nat) (F : Nat → Bool) : Bool := al (fun k => !(s.testBit k && !F k)) 8
/-- the class's way, the reference's way -/
def tuC (A B : Nat → Nat) (m : Nat) : Option Nat := bmn (fun s => sub8 s (fun k => rdB B k && decide (B (6 * k + 2) = m)) && tq A B m s) cS (mk (fun k => rdB B k && decide (B (6 * k + 2) = m)) 8 + 1)
def tuM (A B : Nat → Nat) (m : Nat) : Option Nat := bmn (fun s => sub8 s (rdB B) && tq A B m s) cS (2 ^ B 48)
theorem sub8_iff {s : Nat} {F : Nat → Bool} : sub8 s F = true ↔ ∀ k, k < 8 → s.testBit k = true → F k = true := by
  unfold sub8
  rw [al_iff]
  constructor
  · intro h k hk e
    have := h k hk
    simpa [e] using this
  · intro h k hk
    cases e : s.testBit k
    · simp
    · simp [h k hk e]
theorem ct_lt {f g : Nat → Bool} : ∀ {n : Nat}, (∀ k, k < n → f k = true → g k = true) → ct f n ≤ ct g n ∧ ((∃ k, k < n ∧ g k = true ∧ f k = false) → ct f n < ct g n)
  | 0, _ => ⟨Nat.le_refl _, fun ⟨k, h, _⟩ => absurd h (Nat.not_lt_zero k)⟩
  | n + 1, h => by
    obtain ⟨i1, i2⟩ := ct_lt (n := n) (fun k hk => h k (by omega))
    have hn := h n (by omega)
    rw [ct, ct]
    constructor
    · cases e : f n
      · simp; omega
      · rw [hn e]; simp; omega
    · rintro ⟨k, hk, a, b⟩
      by_cases q : k = n
      · subst q
        rw [a, b]; simp; omega
      · have := i2 ⟨k, by omega, a, b⟩
        cases e : f n
        · simp; omega
        · rw [hn e]; simp; omega
theorem rdB_up {B : Nat → Nat} {k : Nat} (h : rdB B k = true) : k < B 48 := by
  unfold rdB at h
  simp at h
  exact h.1
theorem tu_eq {A B : Nat → Nat} (hB : vB A B) (m : Nat) : tuC A B m = tuM A B m := by
  have h8 := hB.1
  have hpow : (2 : Nat) ^ B 48 ≤ 2 ^ 8 := Nat.pow_le_pow_right (by decide) h8
  have hofl : mk (fun k => rdB B k && decide (B (6 * k + 2) = m)) 8 < 2 ^ B 48 := by
    apply Nat.lt_pow_two_of_testBit
    intro i hi
    rw [mk_tb]
    cases e : rdB B i
    · simp
    · have := rdB_up e; omega
  have tqc : ∀ s t : Nat, (∀ k, k < B 48 → B (6 * k + 2) = m → s.testBit k = t.testBit k) → tq A B m s = tq A B m t := by
    intro s t h
    unfold tq vr
    rw [ll_cong (S' := fun k => rd B k && !t.testBit k) (fun k hk e => by rw [h k hk e])]
  unfold tuC
  cases e : tuM A B m with
  | none =>
    have hn := (bmn_iff _).1 e
    cases e2 : bmn (fun s => sub8 s (fun k => rdB B k && decide (B (6 * k + 2) = m)) && tq A B m s) cS (mk (fun k => rdB B k && decide (B (6 * k + 2) = m)) 8 + 1) with
    | none => rfl
    | some s =>
      obtain ⟨b1, b2, -⟩ := (bmn_iff _).2 s e2
      have b2 : (sub8 s (fun k => rdB B k && decide (B (6 * k + 2) = m)) && tq A B m s) = true := b2
      rw [Bool.and_eq_true] at b2
      have : (sub8 s (rdB B) && tq A B m s) = false := hn s (by omega)
      rw [b2.2, Bool.and_true, sub8_iff.mpr (fun k hk q => by have := sub8_iff.mp b2.1 k hk q; simp at this; exact this.1)] at this
      cases this
  | some s =>
    obtain ⟨b1, b2, b3, b4⟩ := (bmn_iff _).2 s e
    have b2 : (sub8 s (rdB B) && tq A B m s) = true := b2
    have b3 : ∀ t, t < 2 ^ B 48 → (sub8 t (rdB B) && tq A B m t) = true → cS s ≤ cS t := b3
    have b4 : ∀ t, t < s → (sub8 t (rdB B) && tq A B m t) = true → cS s < cS t := b4
    rw [Bool.and_eq_true] at b2
    have hs8 : s < 2 ^ 8 := by omega
    have key : sub8 s (fun k => rdB B k && decide (B (6 * k + 2) = m)) = true := by
      cases e3 : sub8 s (fun k => rdB B k && decide (B (6 * k + 2) = m))
      · exfalso
        have hex : ∃ k, k < 8 ∧ s.testBit k = true ∧ (rdB B k && decide (B (6 * k + 2) = m)) = false := by
          cases e4 : an (fun k => s.testBit k && !(rdB B k && decide (B (6 * k + 2) = m))) 8
          · exfalso
            rw [sub8_iff.mpr] at e3
            · cases e3
            · intro k hk q
              have := an_false.mp e4 k hk
              simpa [q] using this
          · obtain ⟨k, hk, q⟩ := an_iff.mp e4
            rw [Bool.and_eq_true, Bool.not_eq_true'] at q
            exact ⟨k, hk, q.1, q.2⟩
        obtain ⟨k, hk, k1, k2⟩ := hex
        have hlt : (s &&& mk (fun k => rdB B k && decide (B (6 * k + 2) = m)) 8) < 2 ^ B 48 := Nat.lt_of_le_of_lt Nat.and_le_left b1
        have hb : ∀ j, (s &&& mk (fun k => rdB B k && decide (B (6 * k + 2) = m)) 8).testBit j = (s.testBit j && (decide (j < 8) && (rdB B j && decide (B (6 * j + 2) = m)))) := fun j => by rw [Nat.testBit_and, mk_tb]
        have q1 : tq A B m (s &&& mk (fun k => rdB B k && decide (B (6 * k + 2) = m)) 8) = true := by
          rw [← b2.2]
          refine (tqc _ _ (fun j hj ej => ?_)).symm
          rw [hb, decide_eq_true (show j < 8 by omega), decide_eq_true ej]
          cases z : s.testBit j
          · rfl
          · have := sub8_iff.mp b2.1 j (by omega) z
            rw [this]; rfl
        have q2 : sub8 (s &&& mk (fun k => rdB B k && decide (B (6 * k + 2) = m)) 8) (rdB B) = true := sub8_iff.mpr (fun j hj z => by
          rw [hb] at z
          simp at z
          exact z.2.2.1)
        have h1 := b3 _ hlt (by rw [q1, q2]; rfl)
        have h2 : cS (s &&& mk (fun k => rdB B k && decide (B (6 * k + 2) = m)) 8) < cS s := (ct_lt (fun j hj z => by
          rw [hb] at z
          simp at z
          exact z.1)).2 ⟨k, hk, k1, by rw [hb, k2]; simp⟩
        omega
      · rfl
    refine bmn_some (c := cS) ?_ (by show (sub8 _ _ && _) = true; rw [key, b2.2]; rfl) (fun t ht q => ?_) (fun t ht q => ?_)
    · have : s &&& mk (fun k => rdB B k && decide (B (6 * k + 2) = m)) 8 = s := by
        apply Nat.eq_of_testBit_eq
        intro j
        rw [Nat.testBit_and, mk_tb]
        by_cases hj : j < 8
        · cases z : s.testBit j
          · rfl
          · have := sub8_iff.mp key j hj z
            have this : (rdB B j && decide (B (6 * j + 2) = m)) = true := this
            rw [this, decide_eq_true hj]; rfl
        · rw [Nat.testBit_lt_two_pow (Nat.lt_of_lt_of_le hs8 (Nat.pow_le_pow_right (by decide) (by omega)))]
          rfl
      have := Nat.and_le_right (n := s) (m := mk (fun k => rdB B k && decide (B (6 * k + 2) = m)) 8)
      omega
    · have q : (sub8 t (fun k => rdB B k && decide (B (6 * k + 2) = m)) && tq A B m t) = true := q
      rw [Bool.and_eq_true] at q
      exact b3 t (by omega) (by rw [q.2, Bool.and_true]; exact sub8_iff.mpr (fun k hk z => by have := sub8_iff.mp q.1 k hk z; simp at this; exact this.1))
    · have q : (sub8 t (fun k => rdB B k && decide (B (6 * k + 2) = m)) && tq A B m t) = true := q
      rw [Bool.and_eq_true] at q
      exact b4 t ht (by rw [q.2, Bool.and_true]; exact sub8_iff.mpr (fun k hk z => by have := sub8_iff.mp q.1 k hk z; simp at this; exact this.1))
theorem bmn_b {Q : Nat → Bool} {c : Nat → Nat} {n s : Nat} (h : bmn Q c n = some s) : s < n := ((bmn_iff n).2 s h).1
theorem bmn_step {Q : Nat → Bool} {c : Nat → Nat} {n : Nat} (hc : ∀ k, c k ≤ 8) : bmn Q c (n + 1) = if Q n = true ∧ c n < bmf c (bmn Q c n) then some n else bmn Q c n := by
  rw [bmn]
  cases e : bmn Q c n with
  | none =>
    have : c n < 9 := Nat.lt_succ_of_le (hc n)
    simp [bmf, this]
  | some s =>
    show (if (Q n && decide (c n < c s)) = true then some n else some s) = if Q n = true ∧ c n < c s then some n else some s
    by_cases h1 : Q n = true
    · by_cases h2 : c n < c s
      · rw [if_pos (by rw [h1, decide_eq_true h2]; rfl), if_pos ⟨h1, h2⟩]
      · rw [if_neg (by rw [decide_eq_false h2, Bool.and_false]; decide), if_neg (fun z => h2 z.2)]
    · rw [if_neg (fun z => h1 (by rw [Bool.and_eq_true] at z; exact z.1)), if_neg (fun z => h1 z.1)]
section TU
variable {b : Bool} {A B T : Nat → Nat} {σ : zS}
theorem cS_8 (s : Nat) : cS s ≤ 8 := ct_le _ 8
theorem bc_s {s : Nat} (hs : s < 256) (σ : zS) : f_J6_bitCount WC (nI s) σ = some (nI (cS s), σ) := by rw [bc_e, bc_256 s hs]; rfl
theorem ones_s {s : Nat} (hs : s < 256) (σ : zS) : f_X11_ones (nI s) σ = some (nI (cS s), σ) := by
  have := M_ones (f := fun k => s.testBit k) (n := 8) (by omega) σ
  rw [← mk_of (n := 8) hs] at this
  exact this
theorem sub_m {s : Nat} (hs : s < 256) (F : Nat → Bool) : (nI s &&& (nI (mk F 8) ^^^ -1)) = 0 ↔ sub8 s F = true := by
  rw [mk_of (n := 8) (a := s) hs, m_andn (by omega), m_0 (by omega), sub8_iff, ← mk_of (n := 8) hs]
  constructor
  · intro h k hk e
    have := h k hk
    simpa [e] using this
  · intro h k hk
    cases e : s.testBit k
    · rfl
    · simp [h k hk e]
theorem bmf_9 {c : Nat → Nat} (hc : ∀ k, c k ≤ 8) (x : Option Nat) : bmf c x ≤ 9 := by
  cases x with
  | none => exact Nat.le_refl _
  | some s => exact Nat.le_succ_of_le (hc s)
theorem C_leastTurn (h : cU b A B T σ) (hA : vA A) (hB : vB A B) {m : Nat} (hm : m < 2 ^ 31) : f_X10_leastTurn 0 (nI m) σ = some (oI (tuC A B m), σ) := by
  have hA1 := hA.1
  have h8 := hB.1
  unfold f_X10_leastTurn
  rw [zck_t v0, h.r3, zck_t v32, C_readN h hA hB, zbd_s, zlt_e, h.r3, zck_t v32, C_linesOf h.n hB.1 (fun k hk => by have := hB.2.2 k hk; omega) hm, zbd_s, zlt_e, mk_w h8, m_and, C_vrr h hA hB hm, zbd_s, zlt_e, zlt_e, zlt_e, zlt_e]
  rw [mk_cong (f := fun j => rdB B j && (decide (j < B 48) && decide (B (6 * j + 2) = m))) (g := fun k => rdB B k && decide (B (6 * k + 2) = m)) (fun k hk => by
    cases e : rdB B k
    · rfl
    · rw [decide_eq_true (rdB_up e), Bool.true_and])]
  have hof : mk (fun k => rdB B k && decide (B (6 * k + 2) = m)) 8 < 256 := mk_lt _ 8
  unfold tuC
  have b0 : bmn (fun s => sub8 s (fun k => rdB B k && decide (B (6 * k + 2) = m)) && tq A B m s) cS 1 = none := by
    rw [bmn]
    have : tq A B m 0 = false := by
      unfold tq vr
      rw [ll_cong (S' := rd B) (fun k _ _ => by simp), decide_eq_true rfl]
      rfl
    rw [this]
    simp [bmn]
  suffices key : f_X10_leastTurn_38 0 FU (nI m) (nI (mk (rdB B) 8)) (nI (mk (fun k => rdB B k && decide (B (6 * k + 2) = m)) 8)) (oI (vr A B m (rd B))) (oI (bmn (fun s => sub8 s (fun k => rdB B k && decide (B (6 * k + 2) = m)) && tq A B m s) cS 1)) (nI (bmf cS (bmn (fun s => sub8 s (fun k => rdB B k && decide (B (6 * k + 2) = m)) && tq A B m s) cS 1))) (nI 1) σ = some (oI (bmn (fun s => sub8 s (fun k => rdB B k && decide (B (6 * k + 2) = m)) && tq A B m s) cS (mk (fun k => rdB B k && decide (B (6 * k + 2) = m)) 8 + 1)), σ) by
    rw [b0] at key
    exact key
  refine zup (P := fun f s => f_X10_leastTurn_38 0 f (nI m) (nI (mk (rdB B) 8)) (nI (mk (fun k => rdB B k && decide (B (6 * k + 2) = m)) 8)) (oI (vr A B m (rd B))) (oI (bmn (fun s => sub8 s (fun k => rdB B k && decide (B (6 * k + 2) = m)) && tq A B m s) cS s)) (nI (bmf cS (bmn (fun s => sub8 s (fun k => rdB B k && decide (B (6 * k + 2) = m)) && tq A B m s) cS s))) (nI s) σ = _) (mk (fun k => rdB B k && decide (B (6 * k + 2) = m)) 8 + 1) ?_ ?_ 1 (by omega) FU (by unfold FU; omega)
  · intro f
    rw [f_X10_leastTurn_38, zbr_t (nI_lt (by omega) (by omega))]
  · intro f s hs ih
    have c1 := cS_8 s
    have c2 := bmf_9 cS_8 (bmn (fun s => sub8 s (fun k => rdB B k && decide (B (6 * k + 2) = m)) && tq A B m s) cS s)
    rw [bmn_step cS_8] at ih
    have keep : ¬ ((sub8 s (fun k => rdB B k && decide (B (6 * k + 2) = m)) && tq A B m s) = true ∧ cS s < bmf cS (bmn (fun s => sub8 s (fun k => rdB B k && decide (B (6 * k + 2) = m)) && tq A B m s) cS s)) → f_X10_leastTurn_90 0 (f_X10_leastTurn_38 0 f) (nI m) (nI (mk (rdB B) 8)) (nI (mk (fun k => rdB B k && decide (B (6 * k + 2) = m)) 8)) (oI (vr A B m (rd B))) (oI (bmn (fun s => sub8 s (fun k => rdB B k && decide (B (6 * k + 2) = m)) && tq A B m s) cS s)) (nI (bmf cS (bmn (fun s => sub8 s (fun k => rdB B k && decide (B (6 * k + 2) = m)) && tq A B m s) cS s))) (nI s) σ = some (oI (bmn (fun s => sub8 s (fun k => rdB B k && decide (B (6 * k + 2) = m)) && tq A B m s) cS (mk (fun k => rdB B k && decide (B (6 * k + 2) = m)) 8 + 1)), σ) := by
      intro z
      rw [if_neg z] at ih
      unfold f_X10_leastTurn_90
      rw [zlt_e, nI_1]
      exact ih
    rw [f_X10_leastTurn_38, zbr_f (nI_nlt (by omega) (by omega))]
    by_cases e1 : sub8 s (fun k => rdB B k && decide (B (6 * k + 2) = m)) = true
    · rw [zbr_t ((sub_m (by omega) _).mpr e1), bc_s (by omega), zbd_s]
      by_cases e2 : cS s < bmf cS (bmn (fun s => sub8 s (fun k => rdB B k && decide (B (6 * k + 2) = m)) && tq A B m s) cS s)
      · have ev := C_vrw h hA hB (fun k => s.testBit k) hm
        rw [← mk_of (n := 8) (show s < 2 ^ 8 by omega)] at ev
        rw [zbr_f (nI_ge e2 (by omega)), ev, zbd_s]
        by_cases e3 : vr A B m (fun k => rd B k && !s.testBit k) = vr A B m (rd B)
        · rw [zbr_t (by rw [e3])]
          exact keep (fun z => by have := z.1; unfold tq at this; rw [e3] at this; simp at this)
        · rw [zbr_f (fun z => e3 ((oI_inj (fun _ => vr_le hB) (fun _ => vr_le hB)).mp z)), bc_s (by omega), zbd_s, zlt_e, zlt_e]
          rw [if_pos ⟨by rw [e1]; unfold tq; rw [decide_eq_false e3]; rfl, e2⟩] at ih
          unfold f_X10_leastTurn_90
          rw [zlt_e, nI_1]
          exact ih
      · rw [zbr_t (nI_le (by omega) (by omega))]
        exact keep (fun z => e2 z.2)
    · rw [zbr_f (fun z => e1 ((sub_m (by omega) _).mp z))]
      exact keep (fun z => e1 (by have := z.1; rw [Bool.and_eq_true] at this; exact this.1))
theorem M_allRead (h : mU A B T D0 σ) (hA : vA A) (hB : vB A B) : f_X11_allRead 0 σ = some (nI (mk (rdB B) 8), σ) := by
  have h8 := hB.1
  unfold f_X11_allRead
  rw [zck_t w0, zlt_e, zlt_e, show mk (rdB B) 8 = mk (rd B) (B 48) from (mk_w h8).symm]
  refine zup (P := fun f k => f_X11_allRead_4 0 f (nI (mk (rd B) k)) (nI k) σ = _) (B 48) ?_ ?_ 0 (Nat.zero_le _) FU (by unfold FU; omega)
  · intro f
    rw [f_X11_allRead_4, mr19 h.1, w7, zck_t (by decide), cl48, h.2.2.1 48 (by omega), zbr_t (Int32.le_refl _)]
  · intro f k hk ih
    rw [f_X11_allRead_4, mr19 h.1, w7, zck_t (by decide), cl48, h.2.2.1 48 (by omega), zbr_f (nI_ge hk (by omega)), M_isRead h.r7 hB hA.1.2.1 hk, zbd_s]
    unfold f_X11_allRead_34
    cases e : rd B k
    · rw [mk_sf (f := rd B) (n := k) e] at ih
      rw [zbr_t (by rfl), zlt_e, nI_or0, zlt_e, nI_1]
      exact ih
    · rw [zbr_f (by decide), zlt_e, m_step (by omega) e, zlt_e, nI_1]
      exact ih
theorem M_turnOf (h : mU A B T D0 σ) (hA : vA A) (hB : vB A B) {m : Nat} (hm : m < 2 ^ 31) : zH (f_X11_turnOf 0 (nI m) σ) (fun x σ' => x = oI (tuM A B m) ∧ fr Pl σ σ') := by
  have hA1 := hA.1
  have h8 := hB.1
  have hpow : (2 : Nat) ^ B 48 ≤ 2 ^ 8 := Nat.pow_le_pow_right (by decide) h8
  have hpow1 : 0 < (2 : Nat) ^ B 48 := Nat.pow_pos (by decide)
  have b0 : bmn (fun s => sub8 s (rdB B) && tq A B m s) cS 1 = none := by
    rw [bmn]
    have : tq A B m 0 = false := by
      unfold tq vr
      rw [ll_cong (S' := rd B) (fun k _ _ => by simp), decide_eq_true rfl]
      rfl
    rw [this]
    simp [bmn]
  unfold f_X11_turnOf tuM
  refine zH_ck w0 (zH_lt (zH_lt ?_))
  suffices key : ∀ s, s ≤ 2 ^ B 48 → ∀ f, 2 ^ B 48 - s < f → 1 ≤ s → ∀ τ, fr Pl σ τ → zH (f_X11_turnOf_5 0 f (nI m) (oI (bmn (fun s => sub8 s (rdB B) && tq A B m s) cS s)) (nI s) τ) (fun x σ' => x = oI (bmn (fun s => sub8 s (rdB B) && tq A B m s) cS (2 ^ B 48)) ∧ fr Pl σ σ') by
    have := key 1 hpow1 FU (by unfold FU; omega) (Nat.le_refl _) σ (fr_r Pl σ)
    rw [b0] at this
    exact this
  refine zup (P := fun f s => 1 ≤ s → ∀ τ, fr Pl σ τ → zH (f_X11_turnOf_5 0 f (nI m) (oI (bmn (fun s => sub8 s (rdB B) && tq A B m s) cS s)) (nI s) τ) _) (2 ^ B 48) ?_ ?_
  · intro f _ τ hF
    have ht := h.l hF
    rw [f_X11_turnOf_5, mr19 ht.1, w7, cl48, ht.2.2.1 48 (by omega), nI_shl1 _ (by omega)]
    exact zH_ck (by decide) (zH_t (Int32.le_refl _) (zH_ok ⟨rfl, hF⟩))
  · intro f s hs ih h1 τ hF
    have ht := h.l hF
    have c1 := cS_8 s
    have ih := ih (by omega)
    rw [bmn_step cS_8] at ih
    have keep : ∀ υ, fr Pl σ υ → ¬ ((sub8 s (rdB B) && tq A B m s) = true ∧ cS s < bmf cS (bmn (fun s => sub8 s (rdB B) && tq A B m s) cS s)) → zH (f_X11_turnOf_71 0 (f_X11_turnOf_5 0 f) (nI m) (oI (bmn (fun s => sub8 s (rdB B) && tq A B m s) cS s)) (nI s) υ) (fun x σ' => x = oI (bmn (fun s => sub8 s (rdB B) && tq A B m s) cS (2 ^ B 48)) ∧ fr Pl σ σ') := by
      intro υ hu z
      have ih := ih υ hu
      rw [if_neg z] at ih
      unfold f_X11_turnOf_71
      refine zH_lt ?_
      rw [nI_1]
      exact ih
    have go : ∀ υ, fr Pl σ υ → sub8 s (rdB B) = true → cS s < bmf cS (bmn (fun s => sub8 s (rdB B) && tq A B m s) cS s) → zH (f_X11_turnOf_44 0 (f_X11_turnOf_5 0 f) (nI m) (oI (bmn (fun s => sub8 s (rdB B) && tq A B m s) cS s)) (nI s) υ) (fun x σ' => x = oI (bmn (fun s => sub8 s (rdB B) && tq A B m s) cS (2 ^ B 48)) ∧ fr Pl σ σ') := by
      intro υ hu e1 e2
      have hU := h.l hu
      unfold f_X11_turnOf_44
      rw [mr19 hU.1, w7, cl48, hU.2.2.1 48 (by omega)]
      have ev := M_vrw hU hA hB (fun k => s.testBit k) hm
      rw [← mk_of (n := 8) (show s < 2 ^ 8 by omega)] at ev
      refine zH_ck (by decide) (zH_call ev ?_)
      rintro x ω ⟨rfl, hw⟩
      have hw := hu.tr hw
      refine zH_call (M_vr (h.l hw) hA hB hm) ?_
      rintro x ψ ⟨rfl, hp⟩
      have hp := hw.tr hp
      by_cases e3 : vr A B m (fun k => rd B k && !s.testBit k) = vr A B m (rd B)
      · exact zH_t (by rw [e3]) (keep ψ hp (fun z => by have := z.1; unfold tq at this; rw [e3] at this; simp at this))
      · refine zH_f (fun z => e3 ((oI_inj (fun _ => vr_le hB) (fun _ => vr_le hB)).mp z)) (zH_lt ?_)
        have ih := ih ψ hp
        rw [if_pos ⟨by rw [e1]; unfold tq; rw [decide_eq_false e3]; rfl, e2⟩] at ih
        unfold f_X11_turnOf_71
        refine zH_lt ?_
        rw [nI_1]
        exact ih
    rw [f_X11_turnOf_5, mr19 ht.1, w7, cl48, ht.2.2.1 48 (by omega), nI_shl1 _ (by omega)]
    refine zH_ck (by decide) (zH_f (nI_ge hs (by omega)) (zH_eq (M_allRead ht hA hB) ?_))
    by_cases e1 : sub8 s (rdB B) = true
    · refine zH_t ((sub_m (by omega) _).mpr e1) ?_
      cases e : bmn (fun s => sub8 s (rdB B) && tq A B m s) cS s with
      | none =>
        rw [e] at go
        exact zH_t (by decide) (go τ hF e1 (by show cS s < 9; omega))
      | some t =>
        have htl := bmn_b e
        rw [e] at go keep
        refine zH_f (nI_pos (by omega)) (zH_eq (ones_s (by omega) τ) (zH_eq (ones_s (by omega) τ) ?_))
        have c3 := cS_8 t
        by_cases e2 : cS s < cS t
        · exact zH_f (nI_ge e2 (by omega)) (go τ hF e1 e2)
        · exact zH_t (nI_le (by omega) (by omega)) (keep τ hF (fun z => e2 z.2))
    · exact zH_f (fun z => e1 ((sub_m (by omega) _).mp z)) (keep τ hF (fun z => e1 (by have := z.1; rw [Bool.and_eq_true] at this; exact this.1)))
end TU
theorem O_turn : zO_turn Rel := by
  intro σc σm x hR
  refine hR.q (fun b A B T hA hB hT hc hm => ?_)
  have hA1 := hA.1
  have hg := hm.g
  cases hx : inR x (A 4)
  · refine ⟨-1, 1, by decide, QC_refuse ?_, QM_refuse ?_⟩
    · unfold f_X10_turn; rw [zck_t v0, C_isMatter hc hA, hx, zbd_s, zbr_t (by rfl), C_refuse, zbd_s]
    · unfold f_X11_turn; rw [zck_t w0, M_good, zbd_s, M_isMatter hg hA, hx, zbd_s, zbr_t (by rfl), M_no, zbd_s]
  · obtain ⟨m, h, rfl⟩ := inR_t hx
    refine ⟨oI (tuM A B m), 0, by decide, QC_grant ?_, QM_ans ?_⟩
    · unfold f_X10_turn; rw [zck_t v0, C_isMatter hc hA, hx, zbd_s, zbr_f (by decide), C_leastTurn hc hA hB.1 (by omega), zbd_s, tu_eq hB.1, C_grant, zbd_s]
    · unfold f_X11_turn
      refine zH_ck w0 (zH_eq (M_good _) (zH_eq (M_isMatter hg hA _) ?_))
      rw [hx]
      exact zH_f (by decide) (zH_call (M_turnOf hg hA hB.1 (by omega)) (fun x τ ht => zH_ok ht))
def wc (A B : Nat → Nat) (m : Nat) : Nat := match tuM A B m with
  | some s => cS s
  | none => 0
theorem wc_8 (A B : Nat → Nat) (m : Nat) : wc A B m ≤ 8 := by
  unfold wc
  cases tuM A B m with
  | none => exact Nat.zero_le _
  | some s => exact cS_8 s
theorem wc_s {A B : Nat → Nat} {m s : Nat} (e : tuM A B m = some s) : wc A B m = cS s := by unfold wc; rw [e]
def wk (A B : Nat → Nat) (n : Nat) : Option Nat := bmn (fun m => (tuM A B m).isSome) (wc A B) n
theorem wk_step (A B : Nat → Nat) (k : Nat) : wk A B (k + 1) = if (tuM A B k).isSome = true ∧ wc A B k < bmf (wc A B) (wk A B k) then some k else wk A B k := bmn_step (wc_8 A B)
theorem O_weakest : zO_weakest Rel := by
  intro σc σm hR
  refine hR.q (fun b A B T hA hB hT hc hm => ?_)
  have hA1 := hA.1
  have h8 := hB.1.1
  have hg := hm.g
  have hpow : (2 : Nat) ^ B 48 ≤ 2 ^ 8 := Nat.pow_le_pow_right (by decide) h8
  by_cases q : A 1 = 0
  · refine ⟨-1, 1, by decide, QC_refuse ?_, QM_refuse ?_⟩
    · unfold f_X10_weakest; rw [zck_t v0, C_noLetter hc hA, decide_eq_true q, zbd_s, zbr_f (by decide), C_refuse, zbd_s]
    · unfold f_X11_weakest; rw [zck_t w0, M_good, zbd_s, zbr_t ((M_hl hg).mpr q), M_no, zbd_s]
  · have c8 := wc_8 A B
    refine ⟨oI (wk A B (A 4)), 0, by decide, QC_grant ?_, QM_ans ?_⟩
    · unfold f_X10_weakest
      rw [zck_t v0, C_noLetter hc hA, decide_eq_false q, zbd_s, zbr_t (by rfl), zlt_e, zlt_e, zlt_e]
      refine zup (P := fun f k => f_X10_weakest_21 0 f (oI (wk A B k)) (nI (bmf (wc A B) (wk A B k))) (nI k) σc = _) (A 4) ?_ ?_ 0 (Nat.zero_le _) FU (by unfold FU; omega)
      · intro f
        rw [f_X10_weakest_21, hc.r8, zck_t hc.k.1, hc.2.1.1.2.2.2.2.1, zbr_t (Int32.le_refl _), C_grant, zbd_s]
      · intro f k hk ih
        have e2 := bmf_9 c8 (wk A B k)
        rw [wk_step] at ih
        rw [f_X10_weakest_21, hc.r8, zck_t hc.k.1, hc.2.1.1.2.2.2.2.1, zbr_f (nI_ge hk (by omega)), C_leastTurn hc hA hB.1 (by omega), zbd_s, tu_eq hB.1, zlt_e]
        unfold f_X10_weakest_63
        cases e : tuM A B k with
        | none =>
          rw [if_neg (by rw [e]; simp)] at ih
          rw [zbr_t (by rfl), zlt_e, nI_1]
          exact ih
        | some s =>
          have hs := bmn_b e
          have c1 := cS_8 s
          rw [e, wc_s e] at ih
          show zbr (nI s = -2) _ (zbd (f_J6_bitCount WC (nI s) σc) _) = _
          rw [zbr_f (nI_m2 (by omega)), bc_s (by omega), zbd_s]
          by_cases e3 : cS s < bmf (wc A B) (wk A B k)
          · rw [if_pos ⟨rfl, e3⟩] at ih
            rw [zbr_f (nI_ge e3 (by omega))]
            show zbd (f_J6_bitCount WC (nI s) σc) _ = _
            rw [bc_s (by omega), zbd_s, zlt_e, zlt_e, zlt_e, nI_1]
            rw [show bmf (wc A B) (some k) = cS s from wc_s e] at ih
            exact ih
          · rw [if_neg (fun z => e3 z.2)] at ih
            rw [zbr_t (nI_le (by omega) (by omega)), zlt_e, nI_1]
            exact ih
    · unfold f_X11_weakest
      refine zH_ck w0 (zH_eq (M_good _) (zH_f (fun z => q ((M_hl hg).mp z)) (zH_lt (zH_lt ?_))))
      suffices key : ∀ k, k ≤ A 4 → ∀ f, A 4 - k < f → ∀ τ, fr Pl (gd σm) τ → zH (f_X11_weakest_22 0 f (oI (wk A B k)) (nI k) τ) (fun x σ' => x = oI (wk A B (A 4)) ∧ fr Pl (gd σm) σ') from key 0 (Nat.zero_le _) FU (by unfold FU; omega) _ (fr_r Pl _)
      refine zup (P := fun f k => ∀ τ, fr Pl (gd σm) τ → zH (f_X11_weakest_22 0 f (oI (wk A B k)) (nI k) τ) _) (A 4) ?_ ?_
      · intro f τ hF
        have ht := hg.l hF
        rw [f_X11_weakest_22, mr15 ht.1, w3, cl4, ht.2.1 4 (by omega)]
        exact zH_ck (by decide) (zH_t (Int32.le_refl _) (zH_ok ⟨rfl, hF⟩))
      · intro f k hk ih τ hF
        have ht := hg.l hF
        rw [wk_step] at ih
        rw [f_X11_weakest_22, mr15 ht.1, w3, cl4, ht.2.1 4 (by omega)]
        refine zH_ck (by decide) (zH_f (nI_ge hk (by omega)) (zH_call (M_turnOf ht hA hB.1 (by omega)) ?_))
        rintro x υ ⟨rfl, hu⟩
        have hu := hF.tr hu
        have hU := hg.l hu
        unfold f_X11_weakest_63 f_X11_weakest_65
        cases e : tuM A B k with
        | none =>
          have ih := ih υ hu
          rw [if_neg (by rw [e]; simp)] at ih
          refine zH_t (by decide) (zH_lt ?_)
          rw [nI_1]
          exact ih
        | some s =>
          have hs := bmn_b e
          have c1 := cS_8 s
          rw [e, wc_s e] at ih
          refine zH_f (nI_pos (by omega)) ?_
          cases e2 : wk A B k with
          | none =>
            have ih := ih υ hu
            rw [e2, if_pos ⟨rfl, by show cS s < 9; omega⟩] at ih
            refine zH_t (by decide) (zH_lt (zH_lt ?_))
            rw [nI_1]
            exact ih
          | some j =>
            have hj := bmn_b e2
            have hj2 := ((bmn_iff k).2 j e2).2.1
            rw [e2] at ih
            refine zH_f (nI_pos (by omega)) (zH_call (M_turnOf hU hA hB.1 (by omega)) ?_)
            rintro x ω ⟨rfl, hw⟩
            have hw := hu.tr hw
            rw [e]
            refine zH_eq (ones_s (by omega) ω) (zH_call (M_turnOf (hg.l hw) hA hB.1 (by omega)) ?_)
            rintro x ψ ⟨rfl, hp⟩
            have hp := hw.tr hp
            cases e4 : tuM A B j with
            | none => rw [e4] at hj2; cases hj2
            | some t =>
              have htl := bmn_b e4
              have c3 := cS_8 t
              have ih := ih ψ hp
              rw [show bmf (wc A B) (some j) = cS t from wc_s e4] at ih
              refine zH_eq (ones_s (by omega) ψ) ?_
              by_cases e3 : cS s < cS t
              · rw [if_pos ⟨rfl, e3⟩] at ih
                refine zH_f (nI_ge e3 (by omega)) (zH_lt (zH_lt ?_))
                rw [nI_1]
                exact ih
              · rw [if_neg (fun z => e3 z.2)] at ih
                refine zH_t (nI_le (by omega) (by omega)) (zH_lt ?_)
                rw [nI_1]
                exact ih
