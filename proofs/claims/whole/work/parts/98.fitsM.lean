/-! fillings: the reference's side -/
theorem filN_b {A : Nat → Nat} (hA : vA A) : filN A ≤ 729 := by
  have hA1 := hA.1
  unfold filN
  have h1 : (2 * A 4 + 1) ^ A 6 ≤ 9 ^ A 6 := Nat.pow_le_pow_left (by omega) _
  have h2 : (9 : Nat) ^ A 6 ≤ 9 ^ 3 := Nat.pow_le_pow_right (by decide) (by omega)
  have h3 : (9 : Nat) ^ 3 = 729 := by decide
  omega
theorem digN_lt (A : Nat → Nat) (f k : Nat) : digN A f k < 2 * A 4 + 1 := Nat.mod_lt _ (by omega)
theorem sy2 (k : Nat) : (2 : Int32) * nI k + (1 : Int32) = nI (2 * k + 1) := by show nI 2 * nI k + nI 1 = _; rw [nI_mul, nI_add]
theorem dbl (k : Nat) : (2 : Int32) * nI k = nI (2 * k) := by show nI 2 * nI k = _; rw [nI_mul]
theorem half {d : Nat} (h : d < 2 ^ 31) : nI d / (2 : Int32) = nI (d / 2) := pk_div (d := 2) h (by decide) (by decide)
theorem rem2 {d : Nat} (h : d < 2 ^ 31) : nI d - nI d / (2 : Int32) * (2 : Int32) = nI (d % 2) := pk_rem (d := 2) h (by decide) (by decide)
theorem px38 (k : Nat) : (38 : Int32) + nI k = nI (38 + k) := by show nI 38 + nI k = _; rw [nI_add]
theorem px41 (k : Nat) : (41 : Int32) + nI k = nI (41 + k) := by show nI 41 + nI k = _; rw [nI_add]
theorem px8 (k : Nat) : (8 : Int32) + nI k = nI (8 + k) := by show nI 8 + nI k = _; rw [nI_add]
theorem px9 (k s : Nat) : (9 : Int32) * nI k + nI s = nI (9 * k + s) := by show nI 9 * nI k + nI s = _; rw [nI_mul, nI_add]
theorem lfill_t {A T : Nat → Nat} {m f k : Nat} (h : digN A f k / 2 = m ∧ digN A f k < 2 * A 4) : lfill A T m f (k + 1) = ap (lfill A T m f k) (A (38 + k), digN A f k % 2, 8 + k) := by rw [lfill, if_pos h]
theorem lfill_f {A T : Nat → Nat} {m f k : Nat} (h : ¬ (digN A f k / 2 = m ∧ digN A f k < 2 * A 4)) : lfill A T m f (k + 1) = lfill A T m f k := by rw [lfill, if_neg h]
theorem lfill_le (A T : Nat → Nat) (m f : Nat) : ∀ k, (lfill A T m f k).1 ≤ T 48 + k
  | 0 => ll_le T m (rd T) (T 48)
  | k + 1 => by
    have := lfill_le A T m f k
    rw [lfill]
    split
    · show (lfill A T m f k).1 + 1 ≤ _; omega
    · omega
theorem lfill_vL {A T : Nat → Nat} (hA : vA A) (hT : vB A T) (m f : Nat) : ∀ k, k ≤ A 6 → vL (A 1) (lfill A T m f k)
  | 0, _ => ll_vL hT m (rd T) (Nat.le_refl _)
  | k + 1, hk => by
    have ih := lfill_vL hA hT m f k (by omega)
    rw [lfill]
    split
    · refine vL_ap ih ⟨hA.2.2.2.2.2.2.1 k (by omega), ?_, ?_⟩
      · show digN A f k % 2 ≤ 1; omega
      · show 8 + k < 16; have := hA.1; omega
    · exact ih
theorem ct_str {P : Nat → Bool} {k : Nat} (h : P k = true) : ∀ {c : Nat}, k < c → ct P k < ct P c
  | 0, hc => absurd hc (Nat.not_lt_zero k)
  | c + 1, hc => by
    rw [ct]
    by_cases z : k = c
    · subst z; rw [h, if_pos rfl]; omega
    · have := ct_str h (c := c) (by omega); omega
theorem tO_I {c : Nat} (h0 : c ≠ 0) (h4 : c ≤ 4) (h2 : c ≠ 2) : nI c - (3 : Int32) = oI (tO c) := by
  have : c = 1 ∨ c = 3 ∨ c = 4 := by omega
  rcases this with rfl | rfl | rfl <;> decide
theorem tO_b {c k : Nat} (h4 : c ≤ 4) (h : tO c = some k) : k < 2 ^ 31 := by
  unfold tO at h
  by_cases z : c = 1
  · rw [if_pos z] at h; cases h
  · rw [if_neg z] at h; cases h; omega
section FM
variable {b : Bool} {A B T : Nat → Nat} {D : Nat → Bool} {σ : zS}
theorem M_choicesOf (h : mU A B T D σ) : f_X11_choicesOf 0 σ = some (nI (2 * A 4 + 1), σ) := by
  unfold f_X11_choicesOf
  rw [zck_t w0, mr15 h.1, w3, zck_t (by decide), cl4, h.2.1 4 (by omega), sy2]
theorem M_fillings (h : mU A B T D σ) (hA : vA A) : f_X11_fillings 0 σ = some (nI (filN A), σ) := by
  have hA1 := hA.1
  unfold f_X11_fillings
  rw [zck_t w0, zlt_e, zlt_e]
  refine zup (P := fun f k => f_X11_fillings_4 0 f (nI ((2 * A 4 + 1) ^ k)) (nI k) σ = _) (A 6) ?_ ?_ 0 (Nat.zero_le _) FU (by unfold FU; omega)
  · intro f
    rw [f_X11_fillings_4, mr15 h.1, w3, zck_t (by decide), cl6, h.2.1 6 (by omega), zbr_t (Int32.le_refl _)]
    rfl
  · intro f k hk ih
    rw [f_X11_fillings_4, mr15 h.1, w3, zck_t (by decide), cl6, h.2.1 6 (by omega), zbr_f (nI_ge hk (by omega)), M_choicesOf h, zbd_s, nI_mul, ← Nat.pow_succ, zlt_e, zlt_e, nI_1]
    exact ih
theorem M_choiceOf (h : mU A B T D σ) (hA : vA A) {f k : Nat} (hf : f < 2 ^ 31) (hk : k < A 6) : f_X11_choiceOf 0 (nI f) (nI k) σ = some (nI (digN A f k), σ) := by
  have hA1 := hA.1
  unfold f_X11_choiceOf
  rw [zck_t w0, zlt_e, mr15 h.1, w3, zck_t (by decide), cl6, h.2.1 6 (by omega), zlt_e, show nI (A 6) - 1 = nI (A 6 - 1) from nI_sub (b := 1) (by omega)]
  have key : ∀ d i left F, i = k + d → left < 2 ^ 31 → i < 100 → d < F → f_X11_choiceOf_13 0 F (nI k) (nI left) (nI i) σ = some (nI (left / (2 * A 4 + 1) ^ d % (2 * A 4 + 1)), σ) := by
    intro d
    induction d with
    | zero =>
      intro i left F hi hl h100 hF
      obtain ⟨F, rfl⟩ : ∃ g, F = g + 1 := ⟨F - 1, by omega⟩
      have : i = k := by omega
      subst this
      rw [f_X11_choiceOf_13, zbr_t (Int32.le_refl _), M_choicesOf h, zbd_s, zck_t (nI_ne0 (by omega) (by omega)), pk_rem hl (by omega) (by omega), Nat.pow_zero, Nat.div_one]
    | succ d ih =>
      intro i left F hi hl h100 hF
      obtain ⟨F, rfl⟩ : ∃ g, F = g + 1 := ⟨F - 1, by omega⟩
      obtain ⟨i, rfl⟩ : ∃ j, i = j + 1 := ⟨i - 1, by omega⟩
      have hle : left / (2 * A 4 + 1) ≤ left := Nat.div_le_self _ _
      rw [f_X11_choiceOf_13, zbr_f (nI_ge (by omega) (by omega)), M_choicesOf h, zbd_s, zck_t (nI_ne0 (by omega) (by omega)), pk_div hl (by omega) (by omega), zlt_e, zlt_e, ← Int32.sub_eq_add_neg, nI_pred, ih i _ F (by omega) (by omega) (by omega) (by omega), Nat.div_div_eq_div_mul, Nat.pow_succ, Nat.mul_comm ((2 * A 4 + 1) ^ d)]
  exact key (A 6 - 1 - k) (A 6 - 1) f FU (by omega) hf (by omega) (by unfold FU; omega)
theorem M_doneFilled (h : mU A B T D0 σ) (hA : vA A) (hT : vB A T) {m f : Nat} (hm : m < 2 ^ 31) (hf : f < 2 ^ 31) : zH (f_X11_doneFilled 0 (nI m) (nI f) σ) (fun x σ' => x = oI (vd (outr A D0) (lfill A T m f (A 6))) ∧ fr Pl σ σ') := by
  have hA1 := hA.1
  have h8 := hT.1
  unfold f_X11_doneFilled
  rw [mr17 h.1, w5, cl48, h.2.2.2.1 48 (by omega)]
  have hl := M_layList h.1 h.r5 (by decide) hT hA1.2.1 hA1.2.2.2.2.1 (fun _ => false) hm (Nat.le_refl (T 48))
  rw [mk_e, ll_cong (S' := rd T) (fun k _ _ => by simp)] at hl
  refine zH_ck w0 (zH_ck (by decide) (zH_call hl ?_))
  rintro - τ ⟨hF, hL⟩
  refine zH_lt ?_
  suffices key : ∀ k, k ≤ A 6 → ∀ g, A 6 - k < g → ∀ υ, fr Pl σ υ → mL (lfill A T m f k) υ → zH (f_X11_doneFilled_19 0 g (nI m) (nI f) (nI k) υ) (fun x σ' => x = oI (vd (outr A D0) (lfill A T m f (A 6))) ∧ fr Pl σ σ') from key 0 (Nat.zero_le _) FU (by unfold FU; omega) τ hF hL
  refine zup (P := fun g k => ∀ υ, fr Pl σ υ → mL (lfill A T m f k) υ → zH (f_X11_doneFilled_19 0 g (nI m) (nI f) (nI k) υ) _) (A 6) ?_ ?_
  · intro g υ hu hLu
    have hU := h.l hu
    rw [f_X11_doneFilled_19, mr15 hU.1, w3, cl6, hU.2.1 6 (by omega)]
    unfold f_X11_doneFilled_90
    exact zH_ck (by decide) (zH_t (Int32.le_refl _) (zH_eq (M_listDone hU hA hLu (lfill_vL hA hT m f _ (Nat.le_refl _))) (zH_ok ⟨rfl, hu⟩)))
  · intro g k hk ih υ hu hLu
    have hU := h.l hu
    have hd := digN_lt A f k
    have hle := lfill_le A T m f k
    have hcov := hA.2.2.2.2.2.2.1 k hk
    have nxt : ∀ ω, fr Pl σ ω → mL (lfill A T m f (k + 1)) ω → zH (f_X11_doneFilled_84 0 (f_X11_doneFilled_19 0 g) (nI m) (nI f) (nI k) ω) (fun x σ' => x = oI (vd (outr A D0) (lfill A T m f (A 6))) ∧ fr Pl σ σ') := by
      intro ω a1 a2
      unfold f_X11_doneFilled_84
      refine zH_lt ?_
      rw [nI_1]
      exact ih ω a1 a2
    rw [f_X11_doneFilled_19, mr15 hU.1, w3, cl6, hU.2.1 6 (by omega)]
    refine zH_ck (by decide) (zH_f (nI_ge hk (by omega)) (zH_f (nI_pos hf) (zH_eq (M_choiceOf hU hA hf hk) (zH_lt ?_))))
    rw [rem2 (d := digN A f k) (by omega), half (by omega)]
    refine zH_ck (by decide) ?_
    by_cases e1 : digN A f k / 2 = m
    · rw [mr15 hU.1, w3, cl4, hU.2.1 4 (by omega), dbl, px38, px8, nI_clamp (by omega), hU.2.1 _ (by omega)]
      refine zH_t (by rw [e1]) (zH_ck (by decide) ?_)
      by_cases e2 : digN A f k < 2 * A 4
      · refine zH_f (nI_ge e2 (by omega)) (zH_ck (zok_p (by omega) (by decide)) (zH_ck (by decide) (zH_call (M_add hU.1 hLu (by omega) _ _ _) ?_)))
        rintro - ω ⟨hw, hLw⟩
        refine nxt ω (hu.tr hw) ?_
        rw [lfill_t ⟨e1, e2⟩]
        exact hLw
      · refine zH_t (nI_le (by omega) (by omega)) (nxt υ hu ?_)
        rw [lfill_f (fun z => e2 z.2)]
        exact hLu
    · refine zH_f (fun z => e1 ((nI_eq (by omega) hm).mp z)) (nxt υ hu ?_)
      rw [lfill_f (fun z => e1 z.1)]
      exact hLu
theorem M_doneTold (h : mU A B T D0 σ) (hA : vA A) (hT : vB A T) {m : Nat} (hm : m < 2 ^ 31) : zH (f_X11_doneFilled 0 (nI m) (-1) σ) (fun x σ' => x = oI (vd (outr A D0) (ll T m (rd T) (T 48))) ∧ fr Pl σ σ') := by
  have hA1 := hA.1
  have h8 := hT.1
  unfold f_X11_doneFilled
  rw [mr17 h.1, w5, cl48, h.2.2.2.1 48 (by omega)]
  have hl := M_layList h.1 h.r5 (by decide) hT hA1.2.1 hA1.2.2.2.2.1 (fun _ => false) hm (Nat.le_refl (T 48))
  rw [mk_e, ll_cong (S' := rd T) (fun k _ _ => by simp)] at hl
  refine zH_ck w0 (zH_ck (by decide) (zH_call hl ?_))
  rintro - τ ⟨hF, hL⟩
  have hU := h.l hF
  refine zH_lt ?_
  have fin : zH (f_X11_doneFilled_90 0 τ) (fun x σ' => x = oI (vd (outr A D0) (ll T m (rd T) (T 48))) ∧ fr Pl σ σ') := by
    unfold f_X11_doneFilled_90
    exact zH_eq (M_listDone hU hA hL (ll_vL hT m _ (Nat.le_refl _))) (zH_ok ⟨rfl, hF⟩)
  show zH (f_X11_doneFilled_19 0 (1999 + 1) (nI m) (-1) 0 τ) _
  rw [f_X11_doneFilled_19, mr15 hU.1, w3, cl6, hU.2.1 6 (by omega)]
  refine zH_ck (by decide) (zH_br (fun _ => fin) (fun _ => zH_t (by decide) fin))
def wq (A : Nat → Nat) (V : Nat → Option Nat) (m : Nat) : Bool := decide (A (41 + m) = 0) || decide (V m = tO (A (41 + m)))
theorem M_wrongBy (h : mU A B T D0 σ) (hA : vA A) {x1 : Int32} {V : Nat → Option Nat} (hV : ∀ m τ, m < A 4 → fr Pl σ τ → zH (f_X11_doneFilled 0 (nI m) x1 τ) (fun x σ' => x = oI (V m) ∧ fr Pl τ σ')) (hb : ∀ m k, V m = some k → k < 2 ^ 31) : zH (f_X11_wrongBy 0 x1 σ) (fun x σ' => x = oI (fi (fun m => !wq A V m) (A 4)) ∧ fr Pl σ σ') := by
  have hA1 := hA.1
  unfold f_X11_wrongBy
  refine zH_ck w0 (zH_lt ?_)
  suffices key : ∀ k, k ≤ A 4 → ∀ f, A 4 - k < f → ∀ τ, fr Pl σ τ → (∀ j, j < k → (!wq A V j) = false) → zH (f_X11_wrongBy_2 0 f x1 (nI k) τ) (fun x σ' => x = oI (fi (fun m => !wq A V m) (A 4)) ∧ fr Pl σ σ') from key 0 (Nat.zero_le _) FU (by unfold FU; omega) σ (fr_r Pl σ) (fun j hj => absurd hj (Nat.not_lt_zero j))
  refine zup (P := fun f k => ∀ τ, fr Pl σ τ → (∀ j, j < k → (!wq A V j) = false) → zH (f_X11_wrongBy_2 0 f x1 (nI k) τ) _) (A 4) ?_ ?_
  · intro f τ hF hall
    have ht := h.l hF
    rw [f_X11_wrongBy_2, mr15 ht.1, w3, cl4, ht.2.1 4 (by omega), fi_none.mpr hall]
    exact zH_ck (by decide) (zH_t (Int32.le_refl _) (zH_ok ⟨rfl, hF⟩))
  · intro f k hk ih τ hF hall
    have ht := h.l hF
    have h41 := hA.2.2.2.2.2.2.2.1 k hk
    have nxt : ∀ υ, fr Pl σ υ → wq A V k = true → zH (f_X11_wrongBy_46 0 (f_X11_wrongBy_2 0 f) x1 (nI k) υ) (fun x σ' => x = oI (fi (fun m => !wq A V m) (A 4)) ∧ fr Pl σ σ') := by
      intro υ hu z
      unfold f_X11_wrongBy_46
      refine zH_lt ?_
      rw [nI_1]
      exact ih υ hu (fun j hj => by
        by_cases y : j = k
        · subst y; rw [z]; rfl
        · exact hall j (by omega))
    rw [f_X11_wrongBy_2, mr15 ht.1, w3, cl4, ht.2.1 4 (by omega), px41, nI_clamp (by omega), ht.2.1 _ (by omega)]
    refine zH_ck (by decide) (zH_f (nI_ge hk (by omega)) (zH_ck (zok_p (by omega) (by decide)) ?_))
    by_cases e0 : A (41 + k) = 0
    · exact zH_t (by rw [e0]; decide) (nxt τ hF (by unfold wq; rw [decide_eq_true e0]; rfl))
    · refine zH_f (nI_nle (by omega) (by omega)) (zH_call (hV k τ hk hF) ?_)
      rintro x υ ⟨rfl, hu⟩
      have hu := hF.tr hu
      have hU := h.l hu
      rw [mr15 hU.1, w3, hU.2.1 _ (by omega), tO_I e0 h41.1 h41.2]
      refine zH_ck (zok_p (by omega) (by decide)) ?_
      by_cases e1 : V k = tO (A (41 + k))
      · exact zH_t (by rw [e1]) (nxt υ hu (by unfold wq; rw [decide_eq_true e1, Bool.or_true]))
      · refine zH_f (fun z => e1 ((oI_inj (hb k) (fun j => tO_b h41.1)).mp z)) (zH_ok ⟨?_, hu⟩)
        rw [fi_iff.mpr ⟨hk, by unfold wq; rw [decide_eq_false e0, decide_eq_false e1]; rfl, hall⟩]
        rfl
def Pfs (a k : Nat) : Prop := Pl a k ∨ a = 17 ∨ (a = 0 ∧ k = 37)
theorem Pfs_Pq (a k : Nat) (h : Pfs a k) : Pq a k := by unfold Pfs Pl at h; unfold Pq; omega
def tly (A T : Nat → Nat) (k s n : Nat) : Nat := ct (fun f => fitq A T f && decide (digN A f k = s)) n
def fnd (A T : Nat → Nat) (w : Int32) (n : Nat) : Option Nat := fi (fun f => fitq A T f && decide (nI (ct (fitq A T) f) = w)) n
theorem fit_fi {A T : Nat → Nat} (hA : vA A) {f : Nat} : oI (fi (fun m => !wq A (fun m => vd (outr A D0) (lfill A T m f (A 6))) m) (A 4)) = -2 ↔ fitq A T f = true := by
  unfold fitq
  rw [al_iff]
  constructor
  · intro h k hk
    cases e : fi (fun m => !wq A (fun m => vd (outr A D0) (lfill A T m f (A 6))) m) (A 4) with
    | none =>
      have := fi_none.mp e k hk
      have this : (!wq A (fun m => vd (outr A D0) (lfill A T m f (A 6))) k) = false := this
      rw [Bool.not_eq_false'] at this
      exact this
    | some j =>
      rw [e] at h
      have hj := (fi_iff.mp e).1
      have h : nI j = -2 := h
      have h4 := hA.1
      exact absurd h (nI_m2 (by omega))
  · intro h
    rw [fi_none.mpr (fun k hk => by
      have := h k hk
      show (!wq A (fun m => vd (outr A D0) (lfill A T m f (A 6))) k) = false
      unfold wq
      rw [this]; rfl)]
    rfl
end FM
