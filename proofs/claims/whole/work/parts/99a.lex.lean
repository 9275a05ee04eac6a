/-! the letter's text: tokens, on both sides at once -/
theorem zpi_zpi (σ : zS) (a k : Nat) (v w : Int32) : zpi (zpi σ a k v) a k w = zpi σ a k w := by
  refine Prod.ext ?_ rfl
  funext c j
  show (if c = a ∧ j = k then w else if c = a ∧ j = k then v else σ.1 c j) = if c = a ∧ j = k then w else σ.1 c j
  by_cases q : c = a ∧ j = k
  · rw [if_pos q, if_pos q]
  · rw [if_neg q, if_neg q, if_neg q]
def tkM (kd : Nat) : Nat := if kd = 0 then 0 else if kd = 1 then 2 else if kd = 2 then 3 else if kd = 3 then 59 else 1
/-- the first n bytes of the tape, on both sides -/
def TP (tp : Nat → Nat) (n : Nat) (σc σm : zS) : Prop := n ≤ 900 ∧ σc.1 2 2 = nI n ∧ σm.1 0 3 = nI n ∧ ∀ k, k < n → tp k < 256 ∧ σc.1 3 k = sbI (tp k) ∧ σm.1 1 k = nI (tp k)
/-- the token at hand -/
def TK (tp : Nat → Nat) (n at_ e kd : Nat) (σc σm : zS) : Prop := (at_ ≤ e ∧ e ≤ n ∧ kd ≤ 4) ∧ (σc.1 2 3 = nI at_ ∧ σc.1 2 4 = nI e ∧ σc.1 2 5 = nI kd) ∧ (σm.1 0 4 = nI at_ ∧ σm.1 0 5 = nI e ∧ σm.1 0 6 = nI (tkM kd)) ∧
  (kd = 1 → at_ < e ∧ e ≤ at_ + 8 ∧ σm.1 0 8 = nI (e - at_) ∧ ∀ k, k < e - at_ → σm.1 2 k = nI (tp (at_ + k)) ∧ tp (at_ + k) < 128) ∧
  (kd = 2 → ∃ v, v < 1000 ∧ σc.1 2 6 = nI v ∧ σm.1 0 7 = nI v) ∧ (kd = 3 → e = at_ + 1)
def PtC (a k : Nat) : Prop := a = 2 ∧ 3 ≤ k ∧ k ≤ 6
def PtM (a k : Nat) : Prop := a = 2 ∨ (a = 0 ∧ 4 ≤ k ∧ k ≤ 8)
theorem sb_lt {t c : Nat} (ht : t < 256) (hc : c ≤ 128) : sbI t < nI c ↔ t < c ∨ 128 ≤ t := by
  unfold sbI
  by_cases q : t < 128
  · rw [if_pos q, nI_ltI (by omega) (by omega)]; omega
  · rw [if_neg q, Int32.lt_iff_toInt_lt, nI_toInt (by omega)]
    have : (nI t - (256 : Int32)).toInt = (t : Int) - 256 := pk_sub_toInt (b := 256) (by omega) (by decide)
    omega
theorem sb_gt {t c : Nat} (ht : t < 256) (hc : c < 128) : nI c < sbI t ↔ c < t ∧ t < 128 := by
  unfold sbI
  by_cases q : t < 128
  · rw [if_pos q, nI_ltI (by omega) (by omega)]; omega
  · rw [if_neg q, Int32.lt_iff_toInt_lt, nI_toInt (by omega)]
    have : (nI t - (256 : Int32)).toInt = (t : Int) - 256 := pk_sub_toInt (b := 256) (by omega) (by decide)
    omega
theorem sb_eq {t c : Nat} (ht : t < 256) (hc : c < 128) : sbI t = nI c ↔ t = c := by
  unfold sbI
  by_cases q : t < 128
  · rw [if_pos q, nI_eq (by omega) (by omega)]
  · rw [if_neg q]
    have h1 : (nI t - (256 : Int32)).toInt = (t : Int) - 256 := pk_sub_toInt (b := 256) (by omega) (by decide)
    constructor
    · intro e
      have := congrArg Int32.toInt e
      rw [h1, nI_toInt (by omega)] at this
      omega
    · intro e; omega
theorem sb_s {t : Nat} (h : t < 128) : sbI t = nI t := if_pos h
def smb (t : Nat) : Bool := decide (97 ≤ t ∧ t ≤ 122)
def dgb (t : Nat) : Bool := decide (48 ≤ t ∧ t ≤ 57)
section LX
variable {tp : Nat → Nat} {n : Nat} {σc σm : zS}
theorem k2 : WC.2 2 = (9, 0) := rfl
theorem k3 : WC.2 3 = (101, 900) := rfl
theorem C_isSmall (h : TP tp n σc σm) (r0 : σc.2 2 0 = 3) {k : Nat} (hk : k < n) : f_X9_isSmall 2 (nI k) σc = some (bI (smb (tp k)), σc) := by
  obtain ⟨h9, -, -, hb⟩ := h
  obtain ⟨b1, b2, b3⟩ := hb k hk
  unfold f_X9_isSmall smb
  rw [zck_t k2, r0, k3, zck_t (zok_p (by omega) (by decide)), nI_clamp (by omega), b2, zck_t (zok_p (by omega) (by decide))]
  by_cases q1 : 97 ≤ tp k ∧ tp k ≤ 122
  · rw [zbr_f (show ¬ sbI (tp k) < (97 : Int32) from fun z => by have := (sb_lt (c := 97) b1 (by omega)).mp z; omega), zbr_f (show ¬ (122 : Int32) < sbI (tp k) from fun z => by have := (sb_gt (c := 122) b1 (by omega)).mp z; omega), decide_eq_true q1]; rfl
  · rw [decide_eq_false q1]
    by_cases q2 : sbI (tp k) < (97 : Int32)
    · rw [zbr_t q2]; rfl
    · have q3 : ¬ (tp k < 97 ∨ 128 ≤ tp k) := fun z => q2 ((sb_lt (c := 97) b1 (by omega)).mpr z)
      rw [zbr_f q2, zbr_t (show (122 : Int32) < sbI (tp k) from (sb_gt (c := 122) b1 (by omega)).mpr (by omega))]; rfl
theorem C_isDigit (h : TP tp n σc σm) (r0 : σc.2 2 0 = 3) {k : Nat} (hk : k < n) : f_X9_isDigit 2 (nI k) σc = some (bI (dgb (tp k)), σc) := by
  obtain ⟨h9, -, -, hb⟩ := h
  obtain ⟨b1, b2, b3⟩ := hb k hk
  unfold f_X9_isDigit dgb
  rw [zck_t k2, r0, k3, zck_t (zok_p (by omega) (by decide)), nI_clamp (by omega), b2, zck_t (zok_p (by omega) (by decide))]
  by_cases q1 : 48 ≤ tp k ∧ tp k ≤ 57
  · rw [zbr_f (show ¬ sbI (tp k) < (48 : Int32) from fun z => by have := (sb_lt (c := 48) b1 (by omega)).mp z; omega), zbr_f (show ¬ (57 : Int32) < sbI (tp k) from fun z => by have := (sb_gt (c := 57) b1 (by omega)).mp z; omega), decide_eq_true q1]; rfl
  · rw [decide_eq_false q1]
    by_cases q2 : sbI (tp k) < (48 : Int32)
    · rw [zbr_t q2]; rfl
    · have q3 : ¬ (tp k < 48 ∨ 128 ≤ tp k) := fun z => q2 ((sb_lt (c := 48) b1 (by omega)).mpr z)
      rw [zbr_f q2, zbr_t (show (57 : Int32) < sbI (tp k) from (sb_gt (c := 57) b1 (by omega)).mpr (by omega))]; rfl
/-- what the reference sees: a byte, or -1 -/
def seeI (tp : Nat → Nat) (n k : Nat) : Int32 := if k < n then nI (tp k) else -1
theorem M_see {σ : zS} (h9 : n ≤ 900) (h3 : σ.1 0 3 = nI n) (hR : σ.2 = RM) (hb : ∀ k, k < n → tp k < 256 ∧ σ.1 1 k = nI (tp k)) {k : Nat} (hk : k < 2000) : f_X11_see 0 (nI k) σ = some (seeI tp n k, σ) := by
  unfold f_X11_see seeI
  rw [zck_t w0, h3, mr1 hR, w1]
  by_cases q : k < n
  · rw [zbr_f (nI_ge q (by omega)), zck_t (zok_p (by omega) (by decide)), nI_clamp (by omega), (hb k q).2, if_pos q]
  · rw [zbr_t (nI_le (by omega) (by omega)), if_neg q]
theorem M_isSmall (σ : zS) {k : Nat} (ht : k < n → tp k < 256) : f_X11_isSmall (seeI tp n k) σ = some (bI (decide (k < n) && smb (tp k)), σ) := by
  unfold f_X11_isSmall seeI smb
  by_cases q : k < n
  · have := ht q
    rw [if_pos q, decide_eq_true q, Bool.true_and]
    by_cases q1 : 97 ≤ tp k ∧ tp k ≤ 122
    · rw [zbr_f (show ¬ nI (tp k) < (97 : Int32) from nI_nlt (b := 97) (by omega) (by omega)), zbr_f (show ¬ (122 : Int32) < nI (tp k) from nI_nlt (a := 122) (by omega) (by decide)), decide_eq_true q1]; rfl
    · rw [decide_eq_false q1]
      by_cases q2 : tp k < 97
      · rw [zbr_t (show nI (tp k) < (97 : Int32) from nI_lt (b := 97) q2 (by decide))]; rfl
      · rw [zbr_f (show ¬ nI (tp k) < (97 : Int32) from nI_nlt (b := 97) (by omega) (by omega)), zbr_t (show (122 : Int32) < nI (tp k) from nI_lt (a := 122) (by omega) (by omega))]; rfl
  · rw [if_neg q, decide_eq_false q, zbr_t (by decide)]; rfl
theorem M_isDigit (σ : zS) {k : Nat} (ht : k < n → tp k < 256) : f_X11_isDigit (seeI tp n k) σ = some (bI (decide (k < n) && dgb (tp k)), σ) := by
  unfold f_X11_isDigit seeI dgb
  by_cases q : k < n
  · have := ht q
    rw [if_pos q, decide_eq_true q, Bool.true_and]
    by_cases q1 : 48 ≤ tp k ∧ tp k ≤ 57
    · rw [zbr_f (show ¬ nI (tp k) < (48 : Int32) from nI_nlt (b := 48) (by omega) (by omega)), zbr_f (show ¬ (57 : Int32) < nI (tp k) from nI_nlt (a := 57) (by omega) (by decide)), decide_eq_true q1]; rfl
    · rw [decide_eq_false q1]
      by_cases q2 : tp k < 48
      · rw [zbr_t (show nI (tp k) < (48 : Int32) from nI_lt (b := 48) q2 (by decide))]; rfl
      · rw [zbr_f (show ¬ nI (tp k) < (48 : Int32) from nI_nlt (b := 48) (by omega) (by omega)), zbr_t (show (57 : Int32) < nI (tp k) from nI_lt (a := 57) (by omega) (by omega))]; rfl
  · rw [if_neg q, decide_eq_false q, zbr_t (by decide)]; rfl
/-- where a run of P ends -/
theorem run_ex (P : Nat → Bool) : ∀ d e n, e + d = n → ∃ a, e ≤ a ∧ a ≤ n ∧ (∀ k, e ≤ k → k < a → P k = true) ∧ (a < n → P a = false)
  | 0, e, n, h => ⟨e, Nat.le_refl _, by omega, fun k h1 h2 => by omega, fun h2 => by omega⟩
  | d + 1, e, n, h => by
    cases q : P e
    · exact ⟨e, Nat.le_refl _, by omega, fun k h1 h2 => by omega, fun _ => q⟩
    · obtain ⟨a, h1, h2, h3, h4⟩ := run_ex P d (e + 1) n (by omega)
      refine ⟨a, by omega, h2, fun k z1 z2 => ?_, h4⟩
      by_cases z : k = e
      · subst z; exact q
      · exact h3 k (by omega) z2
def val (tp : Nat → Nat) (at_ : Nat) : Nat → Nat
  | 0 => 0
  | k + 1 => 10 * val tp at_ k + tp (at_ + k) - 48
theorem val_b {tp : Nat → Nat} {at_ : Nat} : ∀ k, (∀ j, j < k → 48 ≤ tp (at_ + j) ∧ tp (at_ + j) ≤ 57) → val tp at_ k < 10 ^ k
  | 0, _ => by show 0 < 10 ^ 0; decide
  | k + 1, h => by
    have i1 := val_b k (fun j hj => h j (by omega))
    have i2 := h k (by omega)
    rw [val, Nat.pow_succ]
    omega
theorem val_I {v t : Nat} (h : 48 ≤ t) : ((10 : Int32) * nI v + nI t) - (48 : Int32) = nI (10 * v + t - 48) := by
  have e1 : (10 : Int32) * nI v + nI t = nI (10 * v + t) := by show nI 10 * nI v + nI t = _; rw [nI_mul, nI_add]
  rw [e1]
  exact nI_sub (b := 48) (by omega)
/-- the class's next token -/
theorem C_next (h : TP tp n σc σm) (r0 : σc.2 2 0 = 3) {e : Nat} (he : e ≤ n) (h4 : σc.1 2 4 = nI e) {a : Nat} (ha1 : e ≤ a) (ha2 : a ≤ n) (hbl : ∀ k, e ≤ k → k < a → tp k = 32) (hnb : a < n → tp a ≠ 32) :
    ∃ e' kd σ', f_X9_next 2 σc = some ((), σ') ∧ fr PtC σc σ' ∧ a ≤ e' ∧ e' ≤ n ∧ σ'.1 2 3 = nI a ∧ σ'.1 2 4 = nI e' ∧ σ'.1 2 5 = nI kd ∧
      ((a = n ∧ kd = 0 ∧ e' = a) ∨ (a < n ∧ smb (tp a) = true ∧ a < e' ∧ (∀ k, a ≤ k → k < e' → smb (tp k) = true) ∧ (e' < n → smb (tp e') = false) ∧ kd = if e' ≤ a + 8 then 1 else 4) ∨
       (a < n ∧ smb (tp a) = false ∧ dgb (tp a) = true ∧ a < e' ∧ (∀ k, a ≤ k → k < e' → dgb (tp k) = true) ∧ (e' < n → dgb (tp e') = false) ∧ kd = (if e' ≤ a + 3 then 2 else 4) ∧ σ'.1 2 6 = nI (val tp a (e' - a))) ∨
       (a < n ∧ smb (tp a) = false ∧ dgb (tp a) = false ∧ e' = a + 1 ∧ kd = if tp a = 59 then 3 else 4)) := by
  obtain ⟨h9, h2, h3, hb⟩ := id h
  have pre : f_X9_next 2 σc = f_X9_next_46 2 (zpi σc 2 3 (nI a)) := by
    unfold f_X9_next
    rw [zck_t k2, zlt_e, h4]
    have key : ∀ d k f, k + d = a → e ≤ k → d < f → f_X9_next_8 2 f (zpi σc 2 3 (nI k)) = f_X9_next_46 2 (zpi σc 2 3 (nI a)) := by
      intro d
      induction d with
      | zero =>
        intro k f hk hek hf
        obtain ⟨f, rfl⟩ : ∃ g, f = g + 1 := ⟨f - 1, by omega⟩
        have hka : k = a := by omega
        subst hka
        rw [f_X9_next_8, zpi_ne _ _ (by omega), h2, zpi_eq, zpi_2, r0, k3, nI_clamp (by omega), zpi_ne _ _ (by omega)]
        by_cases q : k < n
        · rw [zbr_f (nI_ge q (by omega)), zck_t (zok_p (by omega) (by decide)), (hb k q).2.1, zbr_f (show ¬ sbI (tp k) = (32 : Int32) from fun z => hnb q ((sb_eq (c := 32) (hb k q).1 (by omega)).mp z))]
        · rw [zbr_t (nI_le (by omega) (by omega))]
      | succ d ih =>
        intro k f hk hek hf
        obtain ⟨f, rfl⟩ : ∃ g, f = g + 1 := ⟨f - 1, by omega⟩
        have q : k < n := by omega
        rw [f_X9_next_8, zpi_ne _ _ (by omega), h2, zpi_eq, zpi_2, r0, k3, nI_clamp (by omega), zpi_ne _ _ (by omega), zbr_f (nI_ge q (by omega)), zck_t (zok_p (by omega) (by decide)), (hb k q).2.1, zbr_t (show sbI (tp k) = (32 : Int32) from (sb_eq (c := 32) (hb k q).1 (by omega)).mpr (hbl k hek (by omega))), zlt_e, nI_1, zpi_zpi]
        exact ih (k + 1) f (by omega) (by omega) (by omega)
    exact key (a - e) e FU (by omega) (Nat.le_refl _) (by unfold FU; omega)
  rw [pre]
  unfold f_X9_next_46
  have s3 : (zpi (zpi σc 2 3 (nI a)) 2 4 (nI a)).1 2 3 = nI a := by rw [zpi_ne _ _ (by omega), zpi_eq]
  have s2 : (zpi (zpi σc 2 3 (nI a)) 2 4 (nI a)).1 2 2 = nI n := by rw [zpi_ne _ _ (by omega), zpi_ne _ _ (by omega), h2]
  have sb : ∀ k, (zpi (zpi σc 2 3 (nI a)) 2 4 (nI a)).1 3 k = σc.1 3 k := fun k => by rw [zpi_ne _ _ (by omega), zpi_ne _ _ (by omega)]
  rw [zlt_e, zpi_eq, s3, s2]
  have hF0 : fr PtC σc (zpi (zpi σc 2 3 (nI a)) 2 4 (nI a)) := ((fr_r _ σc).pi _ ⟨rfl, by omega, by omega⟩).pi _ ⟨rfl, by omega, by omega⟩
  have hT : ∀ τ, fr PtC σc τ → TP tp n τ σm := fun τ hF => ⟨h9, (hF.2 2 2 (by unfold PtC; omega)).trans h2, h3, fun k hk => ⟨(hb k hk).1, (hF.2 3 k (by unfold PtC; omega)).trans (hb k hk).2.1, (hb k hk).2.2⟩⟩
  have hr : ∀ τ, fr PtC σc τ → τ.2 2 0 = 3 := fun τ hF => by rw [hF.1]; exact r0
  by_cases q : a < n
  · rw [zbr_t (nI_lt q (by omega)), C_isSmall (hT _ hF0) (hr _ hF0) q, zbd_s]
    cases es : smb (tp a)
    · rw [zbr_t (by rfl), s3, C_isDigit (hT _ hF0) (hr _ hF0) q, zbd_s]
      cases ed : dgb (tp a)
      · rw [zbr_t (by rfl), zpi_2, zpi_2, r0, k3, s3, zck_t (zok_p (by omega) (by decide)), nI_clamp (by omega), sb, (hb a q).2.1]
        unfold f_X9_next_129
        have fin : ∀ s : Nat, ∃ σ', zck (WC.2 2 = (9, 0)) (zlt (zpi (zpi (zpi σc 2 3 (nI a)) 2 4 (nI a)) 2 5 (nI s)) (fun σ2 => zlt (zpi σ2 2 4 ((σ2.1 2 4) + (1 : Int32))) (fun σ3 => some ((), σ3)))) = some ((), σ') ∧ fr PtC σc σ' ∧ σ'.1 2 3 = nI a ∧ σ'.1 2 4 = nI (a + 1) ∧ σ'.1 2 5 = nI s := by
          intro s
          refine ⟨_, by rw [zck_t k2, zlt_e, zlt_e], (hF0.pi _ ⟨rfl, by omega, by omega⟩).pi _ ⟨rfl, by omega, by omega⟩, ?_, ?_, ?_⟩
          · rw [zpi_ne _ _ (by omega), zpi_ne _ _ (by omega), zpi_ne _ _ (by omega), zpi_eq]
          · rw [zpi_eq, zpi_ne _ _ (by omega), zpi_eq, nI_1]
          · rw [zpi_ne _ _ (by omega), zpi_eq]
        by_cases q59 : tp a = 59
        · obtain ⟨σ', e1, e2, e3, e4, e5⟩ := fin 3
          rw [zbr_t (show sbI (tp a) = (59 : Int32) from (sb_eq (c := 59) (hb a q).1 (by omega)).mpr q59)]
          exact ⟨a + 1, 3, σ', e1, e2, by omega, by omega, e3, e4, e5, Or.inr (Or.inr (Or.inr ⟨q, rfl, rfl, rfl, by rw [if_pos q59]⟩))⟩
        · obtain ⟨σ', e1, e2, e3, e4, e5⟩ := fin 4
          rw [zbr_f (show ¬ sbI (tp a) = (59 : Int32) from fun z => q59 ((sb_eq (c := 59) (hb a q).1 (by omega)).mp z))]
          exact ⟨a + 1, 4, σ', e1, e2, by omega, by omega, e3, e4, e5, Or.inr (Or.inr (Or.inr ⟨q, rfl, rfl, rfl, by rw [if_neg q59]⟩))⟩
      · rw [zbr_f (by decide)]
        obtain ⟨e', x1, x2, x3, x4⟩ := run_ex (fun k => dgb (tp k)) (n - a) a n (by omega)
        have hae : a < e' := by
          rcases Nat.lt_or_ge a e' with y | y
          · exact y
          · have : e' = a := by omega
            subst this
            have := x4 q
            rw [ed] at this; cases this
        have run : ∀ d k f τ, k + d = e' → a ≤ k → d < f → fr PtC σc τ → τ.1 2 3 = nI a → τ.1 2 4 = nI k → τ.1 2 6 = nI (val tp a (k - a)) → ∃ σ', f_X9_readWhole_5 2 f τ = some ((), σ') ∧ fr PtC σc σ' ∧ σ'.1 2 3 = nI a ∧ σ'.1 2 4 = nI e' ∧ σ'.1 2 5 = nI (if e' ≤ a + 3 then 2 else 4) ∧ σ'.1 2 6 = nI (val tp a (e' - a)) := by
          intro d
          induction d with
          | zero =>
            intro k f τ hk hak hf hF t3 t4 t6
            obtain ⟨f, rfl⟩ : ∃ g, f = g + 1 := ⟨f - 1, by omega⟩
            have : k = e' := by omega
            subst this
            have fin : f_X9_readWhole_5 2 (f + 1) τ = f_X9_readWhole_64 2 τ := by
              rw [f_X9_readWhole_5, t4, hF.2 2 2 (by unfold PtC; omega), h2]
              by_cases y : k < n
              · rw [zbr_f (nI_ge y (by omega)), C_isDigit (hT τ hF) (hr τ hF) y, zbd_s, x4 y, zbr_t (by rfl)]
              · rw [zbr_t (nI_le (by omega) (by omega))]
            rw [fin]
            unfold f_X9_readWhole_64
            rw [t4, t3, nI_sub (by omega)]
            by_cases y : k ≤ a + 3
            · rw [zbr_f (show ¬ (3 : Int32) < nI (k - a) from nI_nlt (a := 3) (by omega) (by decide)), zlt_e, if_pos y]
              refine ⟨_, rfl, hF.pi _ ⟨rfl, by omega, by omega⟩, ?_, ?_, zpi_eq _ _ _ _, ?_⟩
              · rw [zpi_ne _ _ (by omega)]; exact t3
              · rw [zpi_ne _ _ (by omega)]; exact t4
              · rw [zpi_ne _ _ (by omega)]; exact t6
            · rw [zbr_t (show (3 : Int32) < nI (k - a) from nI_lt (a := 3) (by omega) (by omega)), zlt_e, if_neg y]
              refine ⟨_, rfl, hF.pi _ ⟨rfl, by omega, by omega⟩, ?_, ?_, zpi_eq _ _ _ _, ?_⟩
              · rw [zpi_ne _ _ (by omega)]; exact t3
              · rw [zpi_ne _ _ (by omega)]; exact t4
              · rw [zpi_ne _ _ (by omega)]; exact t6
          | succ d ih =>
            intro k f τ hk hak hf hF t3 t4 t6
            obtain ⟨f, rfl⟩ : ∃ g, f = g + 1 := ⟨f - 1, by omega⟩
            have y : k < n := by omega
            have hdg := x3 k hak (by omega)
            have hdg2 : 48 ≤ tp k ∧ tp k ≤ 57 := of_decide_eq_true hdg
            rw [f_X9_readWhole_5, t4, hF.2 2 2 (by unfold PtC; omega), h2, zbr_f (nI_ge y (by omega)), C_isDigit (hT τ hF) (hr τ hF) y, zbd_s, hdg, zbr_f (by decide), t4, hr τ hF, k3, zck_t (zok_p (by omega) (by decide)), nI_clamp (by omega), hF.2 3 k (by unfold PtC; omega), (hb k y).2.1, sb_s (by omega), t6, val_I hdg2.1, zlt_e, zlt_e]
            refine ih (k + 1) f _ (by omega) (by omega) (by omega) ((hF.pi _ ⟨rfl, by omega, by omega⟩).pi _ ⟨rfl, by omega, by omega⟩) ?_ ?_ ?_
            · rw [zpi_ne _ _ (by omega), zpi_ne _ _ (by omega)]; exact t3
            · rw [zpi_eq, zpi_ne _ _ (by omega), t4, nI_1]
            · rw [zpi_ne _ _ (by omega), zpi_eq, show k + 1 - a = (k - a) + 1 by omega, val, show a + (k - a) = k by omega]
        unfold f_X9_readWhole
        rw [zck_t k2, zlt_e]
        obtain ⟨σ', y1, y2, y3, y4, y5, y6⟩ := run (e' - a) a FU (zpi (zpi (zpi σc 2 3 (nI a)) 2 4 (nI a)) 2 6 0) (by omega) (Nat.le_refl _) (by unfold FU; omega) (hF0.pi _ ⟨rfl, by omega, by omega⟩) (by rw [zpi_ne _ _ (by omega), zpi_ne _ _ (by omega), zpi_eq]) (by rw [zpi_ne _ _ (by omega), zpi_eq]) (by rw [zpi_eq, Nat.sub_self]; rfl)
        rw [y1, zbd_s]
        exact ⟨e', _, σ', rfl, y2, by omega, x2, y3, y4, y5, Or.inr (Or.inr (Or.inl ⟨q, rfl, rfl, hae, x3, x4, rfl, y6⟩))⟩
    · rw [zbr_f (by decide)]
      obtain ⟨e', x1, x2, x3, x4⟩ := run_ex (fun k => smb (tp k)) (n - a) a n (by omega)
      have hae : a < e' := by
        rcases Nat.lt_or_ge a e' with y | y
        · exact y
        · have : e' = a := by omega
          subst this
          have := x4 q
          rw [es] at this; cases this
      have run : ∀ d k f τ, k + d = e' → a ≤ k → d < f → fr PtC σc τ → τ.1 2 3 = nI a → τ.1 2 4 = nI k → ∃ σ', f_X9_readWord_0 2 f τ = some ((), σ') ∧ fr PtC σc σ' ∧ σ'.1 2 3 = nI a ∧ σ'.1 2 4 = nI e' ∧ σ'.1 2 5 = nI (if e' ≤ a + 8 then 1 else 4) := by
        intro d
        induction d with
        | zero =>
          intro k f τ hk hak hf hF t3 t4
          obtain ⟨f, rfl⟩ : ∃ g, f = g + 1 := ⟨f - 1, by omega⟩
          have : k = e' := by omega
          subst this
          have fin : f_X9_readWord_0 2 (f + 1) τ = f_X9_readWord_35 2 τ := by
            rw [f_X9_readWord_0, t4, hF.2 2 2 (by unfold PtC; omega), h2]
            by_cases y : k < n
            · rw [zbr_f (nI_ge y (by omega)), C_isSmall (hT τ hF) (hr τ hF) y, zbd_s, x4 y, zbr_t (by rfl)]
            · rw [zbr_t (nI_le (by omega) (by omega))]
          rw [fin]
          unfold f_X9_readWord_35
          rw [t4, t3, nI_sub (by omega)]
          by_cases y : k ≤ a + 8
          · rw [zbr_f (show ¬ (8 : Int32) < nI (k - a) from nI_nlt (a := 8) (by omega) (by decide)), zlt_e, if_pos y]
            refine ⟨_, rfl, hF.pi _ ⟨rfl, by omega, by omega⟩, ?_, ?_, zpi_eq _ _ _ _⟩
            · rw [zpi_ne _ _ (by omega)]; exact t3
            · rw [zpi_ne _ _ (by omega)]; exact t4
          · rw [zbr_t (show (8 : Int32) < nI (k - a) from nI_lt (a := 8) (by omega) (by omega)), zlt_e, if_neg y]
            refine ⟨_, rfl, hF.pi _ ⟨rfl, by omega, by omega⟩, ?_, ?_, zpi_eq _ _ _ _⟩
            · rw [zpi_ne _ _ (by omega)]; exact t3
            · rw [zpi_ne _ _ (by omega)]; exact t4
        | succ d ih =>
          intro k f τ hk hak hf hF t3 t4
          obtain ⟨f, rfl⟩ : ∃ g, f = g + 1 := ⟨f - 1, by omega⟩
          have y : k < n := by omega
          rw [f_X9_readWord_0, t4, hF.2 2 2 (by unfold PtC; omega), h2, zbr_f (nI_ge y (by omega)), C_isSmall (hT τ hF) (hr τ hF) y, zbd_s, x3 k hak (by omega), zbr_f (by decide), t4, zlt_e, nI_1]
          refine ih (k + 1) f _ (by omega) (by omega) (by omega) (hF.pi _ ⟨rfl, by omega, by omega⟩) ?_ (zpi_eq _ _ _ _)
          rw [zpi_ne _ _ (by omega)]; exact t3
      unfold f_X9_readWord
      rw [zck_t k2]
      obtain ⟨σ', y1, y2, y3, y4, y5⟩ := run (e' - a) a FU (zpi (zpi σc 2 3 (nI a)) 2 4 (nI a)) (by omega) (Nat.le_refl _) (by unfold FU; omega) hF0 (by rw [zpi_ne _ _ (by omega), zpi_eq]) (zpi_eq _ _ _ _)
      rw [y1, zbd_s]
      exact ⟨e', _, σ', rfl, y2, by omega, x2, y3, y4, y5, Or.inr (Or.inl ⟨q, rfl, hae, x3, x4, rfl⟩)⟩
  · have : a = n := by omega
    subst this
    rw [zbr_f (nI_nlt (Nat.le_refl _) (by omega)), zlt_e]
    refine ⟨a, 0, _, rfl, hF0.pi _ ⟨rfl, by omega, by omega⟩, Nat.le_refl _, Nat.le_refl _, ?_, ?_, zpi_eq _ _ _ _, Or.inl ⟨rfl, rfl, rfl⟩⟩
    · rw [zpi_ne _ _ (by omega), zpi_ne _ _ (by omega), zpi_eq]
    · rw [zpi_ne _ _ (by omega), zpi_eq]
end LX
