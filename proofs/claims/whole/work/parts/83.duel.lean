/-! lines written besides: holds, doneIf, wins, winsBy -/
theorem ubp_iff {o : Nat → Nat → Bool} {np : Nat} {M : Nat → Bool} (ht : tourn o np) {p : Nat} : ubp o np M = some p ↔ p < np ∧ ubpq o np M p = true := by
  constructor
  · intro h
    exact ⟨(fi_iff.mp h).1, (fi_iff.mp h).2.1⟩
  · rintro ⟨h1, h2⟩
    refine fi_iff.mpr ⟨h1, h2, fun q hq => ?_⟩
    cases e : ubpq o np M q
    · rfl
    · obtain ⟨a1, a2⟩ := ubpq_iff.mp h2
      obtain ⟨b1, b2⟩ := ubpq_iff.mp e
      have z1 := a2 q (by omega) b1 (by omega)
      have z2 := b2 p h1 a1 (by omega)
      have := ht.1 p q h1 (by omega) (by omega)
      rw [z1, z2] at this
      cases this
/-- how many of them stand at a place -/
def cX (X : lT) (p : Nat) : Nat := ct (fun j => decide ((X.2 j).1 = p)) X.1
theorem cX_ap (X : lT) (t : Nat × Nat × Nat) (p : Nat) : cX (ap X t) p = cX X p + (if t.1 = p then 1 else 0) := by
  show ct _ X.1 + (if decide ((if X.1 = X.1 then t else X.2 X.1).1 = p) = true then 1 else 0) = _
  rw [if_pos rfl]
  unfold cX
  rw [ct_cong (g := fun j => decide ((X.2 j).1 = p)) (fun k hk => by
    show decide ((if k = X.1 then t else X.2 k).1 = p) = _
    rw [if_neg (by omega)])]
  simp
def opn (A B : Nat → Nat) (p : Nat) : Bool := decide (p < A 1) && !(B 49).testBit p && decide (0 < room A B p)
def cw (A B : Nat → Nat) (X : lT) (p : Nat) : Bool := !(B 49).testBit p && decide (cX X p < room A B p)
def lm (L X : lT) : Nat → lT
  | 0 => L
  | k + 1 => ap (lm L X k) ((X.2 k).1, (X.2 k).2.1, 8 + k)
theorem lm_ap (L X : lT) (t : Nat × Nat × Nat) : lm L (ap X t) (X.1 + 1) = ap (lm L X X.1) (t.1, t.2.1, 8 + X.1) := by
  have key : ∀ n, n ≤ X.1 → lm L (ap X t) n = lm L X n := by
    intro n
    induction n with
    | zero => intro _; rfl
    | succ n ih =>
      intro hn
      rw [lm, lm, ih (by omega)]
      show ap _ ((if n = X.1 then t else X.2 n).1, (if n = X.1 then t else X.2 n).2.1, 8 + n) = _
      rw [if_neg (by omega)]
  rw [lm, key X.1 (Nat.le_refl _)]
  show ap _ ((if X.1 = X.1 then t else X.2 X.1).1, (if X.1 = X.1 then t else X.2 X.1).2.1, 8 + X.1) = _
  rw [if_pos rfl]
theorem lm_len (L X : lT) : ∀ n, (lm L X n).1 = L.1 + n
  | 0 => rfl
  | n + 1 => by rw [lm]; show (lm L X n).1 + 1 = _; rw [lm_len L X n]; omega
def vX (np : Nat) (X : lT) : Prop := X.1 ≤ 4 ∧ ∀ j, j < X.1 → (X.2 j).1 < np ∧ (X.2 j).2.1 ≤ 1
theorem vX_0 (np : Nat) : vX np l0 := ⟨by decide, fun j hj => absurd hj (Nat.not_lt_zero j)⟩
theorem vX_ap {np : Nat} {X : lT} {t : Nat × Nat × Nat} (h : vX np X) (h4 : X.1 < 4) (ht : t.1 < np ∧ t.2.1 ≤ 1) : vX np (ap X t) := by
  refine ⟨h4, fun j hj => ?_⟩
  show ((if j = X.1 then t else X.2 j)).1 < np ∧ ((if j = X.1 then t else X.2 j)).2.1 ≤ 1
  by_cases e : j = X.1
  · rw [if_pos e]; exact ht
  · rw [if_neg e]; exact h.2 j (by have : j < X.1 + 1 := hj; omega)
theorem lm_vL {np : Nat} {L X : lT} (hL : vL np L) (hX : vX np X) : ∀ n, n ≤ X.1 → vL np (lm L X n)
  | 0, _ => hL
  | n + 1, hn => vL_ap (lm_vL hL hX n (by omega)) ⟨(hX.2 n hn).1, (hX.2 n hn).2, by show 8 + n < 16; have := hX.1; omega⟩
/-- the list of a matter and of what was written besides -/
def lw (B : Nat → Nat) (m : Nat) (X : lT) : lT := lm (ll B m (rd B) (B 48)) X X.1
theorem lw_ap (B : Nat → Nat) (m : Nat) (X : lT) (t : Nat × Nat × Nat) : lw B m (ap X t) = ap (lw B m X) (t.1, t.2.1, 8 + X.1) := lm_ap _ X t
theorem lw_vL {A B : Nat → Nat} (hB : vB A B) {m : Nat} {X : lT} (hX : vX (A 1) X) : vL (A 1) (lw B m X) := lm_vL (ll_vL hB m _ (Nat.le_refl _)) hX _ (Nat.le_refl _)
/-- whether it is done in the end -/
def win (A B : Nat → Nat) (m : Nat) : Nat → Bool → lT → Bool
  | 0, _, X => decide (vd (outr A D0) (lw B m X) = some 1)
  | d + 1, w, X => if win A B m d (!w) X = w then w else if an (fun p => cw A B X p && decide (win A B m d (!w) (ap X (p, (if w then 1 else 0), 0)) = w)) (A 1) then w else !w
def fmw (A B : Nat → Nat) (m : Nat) (w : Bool) (X : lT) : Nat → Option Nat
  | 0 => none
  | d + 1 => if win A B m d (!w) X = w then none else fi (fun p => cw A B X p && decide (win A B m d (!w) (ap X (p, (if w then 1 else 0), 0)) = w)) (A 1)
section DC
variable {b : Bool} {A B T : Nat → Nat} {σ : zS}
theorem fold_lt (hA : vA A) (hB : vB A B) : B 49 < 2 ^ 31 := Nat.lt_of_lt_of_le hB.2.1 (Nat.pow_le_pow_right (by decide) (by have := hA.1; omega))
theorem room_9 (hA : vA A) {p : Nat} (hp : p < A 1) : room A B p ≤ 9 := by
  have := hA.2.1 p hp
  unfold room
  omega
theorem C_openPlaces (h : cU b A B T σ) (hA : vA A) (hB : vP A B) : f_X10_openPlaces 0 σ = some (nI (mk (opn A B) 6), σ) := by
  have hA1 := hA.1
  have hf := fold_lt hA hB.1
  have e6 : mk (opn A B) 6 = mk (opn A B) (A 1) := (mk_up (by omega) (fun k h1 h2 => by unfold opn; rw [decide_eq_false (by omega)]; rfl)).symm
  unfold f_X10_openPlaces
  rw [zck_t v0, zlt_e, zlt_e, e6]
  refine zup (P := fun f k => f_X10_openPlaces_4 0 f (nI (mk (opn A B) k)) (nI k) σ = _) (A 1) ?_ ?_ 0 (Nat.zero_le _) FU (by unfold FU; omega)
  · intro f
    rw [f_X10_openPlaces_4, h.r8, zck_t h.k.1, h.2.1.1.2.1, zbr_t (Int32.le_refl _)]
  · intro f k hk ih
    have hr := room_9 (B := B) hA hk
    rw [f_X10_openPlaces_4, h.r8, zck_t h.k.1, h.2.1.1.2.1, zbr_f (nI_ge hk (by omega)), h.r3, zck_t v32, h.n.2.2.2.1, nI_get hf (by omega)]
    unfold f_X10_openPlaces_43
    cases e : (B 49).testBit k
    · rw [zbr_t (by rfl), C_roomAt h hA hB hk, zbd_s]
      by_cases q : 0 < room A B k
      · rw [zbr_f (nI_nle q (by omega)), zlt_e, m_step (by omega) (by unfold opn; rw [decide_eq_true hk, e, decide_eq_true q]; rfl), zlt_e, nI_1]
        exact ih
      · rw [mk_sf (f := opn A B) (n := k) (by unfold opn; rw [decide_eq_false q, Bool.and_false])] at ih
        rw [zbr_t (by rw [show room A B k = 0 by omega]; decide), zlt_e, nI_1]
        exact ih
    · rw [mk_sf (f := opn A B) (n := k) (by unfold opn; rw [e]; simp)] at ih
      rw [zbr_f (by decide), zlt_e, nI_1]
      exact ih
theorem opn_lt {p : Nat} (h : opn A B p = true) : p < A 1 := by unfold opn at h; simp at h; exact h.1.1
/-- the rooms of the duel -/
def dR (A B : Nat → Nat) (X : lT) (σ : zS) : Prop := ∀ p, p < 6 → σ.1 68 p = nI (if opn A B p then room A B p - cX X p else 0)
theorem zpi_back {σ : zS} {a k : Nat} {v w : Int32} (h : σ.1 a k = w) : zpi (zpi σ a k v) a k w = σ := by
  refine Prod.ext ?_ rfl
  funext c j
  show (if c = a ∧ j = k then w else if c = a ∧ j = k then v else σ.1 c j) = _
  by_cases q : c = a ∧ j = k
  · rw [if_pos q, q.1, q.2, h]
  · rw [if_neg q, if_neg q]
theorem plE_lw (hB : vB A B) {m : Nat} {X : lT} (hX : vX (A 1) X) : ∀ q, A 1 ≤ q → q < 6 → plE (lw B m X) q = false := by
  intro q h1 h2
  cases e : plE (lw B m X) q
  · rfl
  · obtain ⟨j, hj, e2⟩ := plE_iff.mp e
    have := (lw_vL hB hX j hj).1
    omega
theorem m_put (F : Nat → Bool) {p : Nat} (hp : p < 6) (w : Bool) : (if w then nI (mk F 6) ||| ((1 : Int32) <<< (nI p &&& 31)) else nI (mk F 6) &&& (((1 : Int32) <<< (nI p &&& 31)) ^^^ -1)) = nI (mk (fun j => if j = p then w else F j) 6) := by
  cases w
  · rw [if_neg (by decide), m_bit (n := 6) (by omega) hp, m_andn (by omega)]
    congr 1
    apply mk_cong
    intro j hj
    by_cases q : j = p <;> simp [q]
  · rw [if_pos rfl, m_set (by omega) hp]
    congr 1
    apply mk_cong
    intro j hj
    by_cases q : j = p <;> simp [q]
theorem pl_put (L : lT) (p s t : Nat) (hp : p < 6) : nI (mk (plE L) 6) ||| ((1 : Int32) <<< (nI p &&& 31)) = nI (mk (plE (ap L (p, s, t))) 6) := by
  rw [m_set (by omega) hp]
  congr 1
  apply mk_cong
  intro j hj
  rw [plE_ap]
  congr 1
  exact decide_eq_decide.mpr ⟨Eq.symm, Eq.symm⟩
theorem ds_put (L : lT) (p t : Nat) (w : Bool) (hp : p < 6) : (if w then nI (mk (dsE L) 6) ||| ((1 : Int32) <<< (nI p &&& 31)) else nI (mk (dsE L) 6) &&& (((1 : Int32) <<< (nI p &&& 31)) ^^^ -1)) = nI (mk (dsE (ap L (p, (if w then 1 else 0), t))) 6) := by
  rw [m_put _ hp]
  congr 1
  apply mk_cong
  intro j hj
  rw [dsE_ap]
  by_cases q : j = p
  · subst q
    rw [if_pos rfl, if_pos rfl]
    cases w <;> rfl
  · rw [if_neg q, if_neg (fun e => q e.symm)]
theorem C_won (hA : vA A) (hB : vP A B) (m : Nat) : ∀ (d : Nat) (X : lT) (w : Bool) (σ : zS) (F : Nat), d < F → X.1 + d ≤ 4 → vX (A 1) X → (∀ p, p < A 1 → cX X p ≤ room A B p) → oC 28 (outr A D0) (A 1) σ → σ.2 67 0 = 68 → dR A B X σ → f_X1_wonByOne F 67 28 (nI (mk (plE (lw B m X)) 6)) (nI (mk (dsE (lw B m X)) 6)) (nI d) (bI w) σ = some (bI (win A B m d w X), σ) ∧ ∀ (G : Nat) (p : Nat), d < G → p < A 1 → 1 ≤ d → cw A B X p = true → f_X1_wonBehind (f_X1_wonByOne G) 67 28 (nI (mk (plE (lw B m X)) 6)) (nI (mk (dsE (lw B m X)) 6)) (nI d) (bI w) (nI p) σ = some (bI (win A B m (d - 1) (!w) (ap X (p, (if w then 1 else 0), 0))), σ) := by
  have hA1 := hA.1
  intro d
  induction d with
  | zero =>
    intro X w σ F hF hd hX hc ho hr hD
    refine ⟨?_, fun G p _ _ h1 => absurd h1 (by decide)⟩
    obtain ⟨F, rfl⟩ : ∃ g, F = g + 1 := ⟨F - 1, by omega⟩
    have hv := lw_vL (m := m) hB.1 hX
    rw [f_X1_wonByOne]
    unfold f_X1_wonByOne_b
    rw [zck_t (by rfl), zbr_f (by decide), zck_t ho.1.1, C_outcome ho (by omega) (plE_lw hB.1 hX), zbd_s, vd_eq (outr_t D0 hA) (fun j hj => ⟨(hv j hj).1, (hv j hj).2.1⟩)]
    rw [win]
    by_cases q : vd (outr A D0) (lw B m X) = some 1
    · rw [zbr_t (by rw [q]; rfl), decide_eq_true q]; rfl
    · rw [zbr_f (fun z => q ((oI_1 (fun k e => by have := vd_le hv e; omega)).mp z)), decide_eq_false q]; rfl
  | succ d ih =>
    intro X w σ F hF hd hX hc ho hr hD
    have beh : ∀ (G : Nat) (p : Nat), d < G → p < A 1 → cw A B X p = true → f_X1_wonBehind (f_X1_wonByOne G) 67 28 (nI (mk (plE (lw B m X)) 6)) (nI (mk (dsE (lw B m X)) 6)) (nI (d + 1)) (bI w) (nI p) σ = some (bI (win A B m d (!w) (ap X (p, (if w then 1 else 0), 0))), σ) := by
      intro G p hG hp hcw
      have hcw2 : cX X p < room A B p := by unfold cw at hcw; simp at hcw; exact hcw.2
      have hop : opn A B p = true := by unfold cw at hcw; simp at hcw; unfold opn; rw [decide_eq_true hp, hcw.1, decide_eq_true (by omega)]; rfl
      have hr9 := room_9 (B := B) hA hp
      have e68 : σ.1 68 p = nI (room A B p - cX X p) := by rw [hD p (by omega), if_pos hop]
      have e1 : nI (room A B p - cX X p) - 1 = nI (room A B p - cX X p - 1) := nI_sub (b := 1) (by omega)
      have ih1 := (ih (ap X (p, (if w then 1 else 0), 0)) (!w) (zpi σ 68 p (nI (room A B p - cX X p - 1))) G (by omega) (by show X.1 + 1 + d ≤ 4; omega) (vX_ap hX (by omega) ⟨hp, by show (if w = true then 1 else 0) ≤ 1; cases w <;> decide⟩) (fun q hq => by
        rw [cX_ap]
        show cX X q + (if p = q then 1 else 0) ≤ room A B q
        by_cases z : p = q
        · subst z; rw [if_pos rfl]; omega
        · rw [if_neg z]; exact hc q hq) ⟨ho.1, ho.2.f (fun a k h1 h2 => zpi_ne _ _ (by omega))⟩ hr (fun q hq => by
        rw [cX_ap]
        show _ = nI (if opn A B q = true then room A B q - (cX X q + (if p = q then 1 else 0)) else 0)
        by_cases z : p = q
        · subst z
          rw [zpi_eq, if_pos hop, if_pos rfl, Nat.sub_sub]
        · rw [zpi_ne _ _ (fun e => z e.2.symm), hD q hq, if_neg z, Nat.add_zero])).1
      rw [lw_ap, ← pl_put _ _ _ _ (show p < 6 by omega), ← ds_put _ _ _ _ (show p < 6 by omega)] at ih1
      unfold f_X1_wonBehind
      rw [zck_t (by rfl), zlt_e, hr, show WC.2 68 = (100, 6) from rfl, zck_t (zok_p (by omega) (by decide)), zck_t (zok_p (by omega) (by decide)), zlt_e, nI_clamp (by omega), e68, e1]
      unfold f_X1_wonBehind_41 f_X1_wonBehind_55
      rw [nI_pred]
      have fin : ∀ x : Bool, zlt (bI x) (fun v4 => zck (zok 100 (WC.2 ((zpi σ 68 p (nI (room A B p - cX X p - 1))).2 67 0)) (nI p)) (zck (zok 100 (WC.2 ((zpi σ 68 p (nI (room A B p - cX X p - 1))).2 67 0)) (nI p)) (zlt (zpi (zpi σ 68 p (nI (room A B p - cX X p - 1))) ((zpi σ 68 p (nI (room A B p - cX X p - 1))).2 67 0) (nI p).toNatClampNeg (((zpi σ 68 p (nI (room A B p - cX X p - 1))).1 ((zpi σ 68 p (nI (room A B p - cX X p - 1))).2 67 0) (nI p).toNatClampNeg) + 1)) (fun σ5 => zck (zb v4) (some (v4, σ5)))))) = some (bI x, σ) := by
        intro x
        rw [zlt_e, zpi_2, hr, show WC.2 68 = (100, 6) from rfl, zck_t (zok_p (by omega) (by decide)), zck_t (zok_p (by omega) (by decide)), zlt_e, nI_clamp (by omega), zpi_eq, nI_1, zck_t (bI_z x), zpi_back (by rw [e68]; congr 1; omega)]
      cases w
      · rw [zbr_t (by rfl), zbr_t (by rfl), zck_t (by rfl)]
        rw [if_neg (by decide)] at ih1
        have ih1 : f_X1_wonByOne G 67 28 _ _ (nI d) 1 _ = _ := ih1
        rw [ih1, zbd_s]
        exact fin _
      · rw [zbr_f (by decide), zbr_f (by decide), zck_t (by rfl)]
        rw [if_pos rfl] at ih1
        have ih1 : f_X1_wonByOne G 67 28 _ _ (nI d) 0 _ = _ := ih1
        rw [ih1, zbd_s]
        exact fin _
    refine ⟨?_, fun G p hG hp _ hcw => beh G p (by omega) hp hcw⟩
    obtain ⟨F, rfl⟩ : ∃ g, F = g + 1 := ⟨F - 1, by omega⟩
    have ih0 := (ih X (!w) σ F (by omega) (by omega) hX hc ho hr hD).1
    -- the loop over places
    have loop : ¬ win A B m d (!w) X = w → f_X1_wonByOne_53 (f_X1_wonByOne F) 67 FU 28 (nI (mk (plE (lw B m X)) 6)) (nI (mk (dsE (lw B m X)) 6)) (nI (d + 1)) (bI w) 0 σ = some (bI (if an (fun p => cw A B X p && decide (win A B m d (!w) (ap X (p, (if w then 1 else 0), 0)) = w)) (A 1) then w else !w), σ) := by
      intro _
      refine zup (P := fun f p => (∀ q, q < p → q < A 1 → (cw A B X q && decide (win A B m d (!w) (ap X (q, (if w then 1 else 0), 0)) = w)) = false) → f_X1_wonByOne_53 (f_X1_wonByOne F) 67 f 28 (nI (mk (plE (lw B m X)) 6)) (nI (mk (dsE (lw B m X)) 6)) (nI (d + 1)) (bI w) (nI p) σ = _) 6 ?_ ?_ 0 (Nat.zero_le _) FU (by unfold FU; omega) (fun q hq => absurd hq (Nat.not_lt_zero q))
      · intro f hall
        rw [f_X1_wonByOne_53, zbr_t (by decide), an_false.mpr (fun q hq => hall q (by omega) hq), if_neg (by decide)]
        cases w <;> rfl
      · intro f p hp ih2 hall
        have nxt : (p < A 1 → (cw A B X p && decide (win A B m d (!w) (ap X (p, (if w then 1 else 0), 0)) = w)) = false) → f_X1_wonByOne_91 (f_X1_wonByOne F) 67 (f_X1_wonByOne_53 (f_X1_wonByOne F) 67 f) 28 (nI (mk (plE (lw B m X)) 6)) (nI (mk (dsE (lw B m X)) 6)) (nI (d + 1)) (bI w) (nI p) σ = some (bI (if an (fun p => cw A B X p && decide (win A B m d (!w) (ap X (p, (if w then 1 else 0), 0)) = w)) (A 1) then w else !w), σ) := by
          intro z
          unfold f_X1_wonByOne_91
          rw [zlt_e, nI_1]
          refine ih2 (fun q h1 h2 => ?_)
          by_cases y : q = p
          · subst y; exact z h2
          · exact hall q (by omega) h2
        rw [f_X1_wonByOne_53, zbr_f (show ¬ (6 : Int32) ≤ nI p from nI_ge (b := 6) hp (by decide)), hr, show WC.2 68 = (100, 6) from rfl, zck_t (zok_p (by omega) (by decide)), nI_clamp (by omega), hD p hp]
        by_cases hpn : p < A 1
        · have hr9 := room_9 (B := B) hA hpn
          by_cases hcw : cw A B X p = true
          · have hcw2 : cX X p < room A B p := by unfold cw at hcw; simp at hcw; exact hcw.2
            have hop : opn A B p = true := by unfold cw at hcw; simp at hcw; unfold opn; rw [decide_eq_true hpn, hcw.1, decide_eq_true (by omega)]; rfl
            rw [if_pos hop, zbr_f (nI_nle (by omega) (by omega)), beh F p (by omega) hpn hcw, zbd_s]
            by_cases e : win A B m d (!w) (ap X (p, (if w then 1 else 0), 0)) = w
            · rw [zbr_t (by rw [e]), zck_t (bI_z w), an_iff.mpr ⟨p, hpn, by rw [hcw, decide_eq_true e]; rfl⟩, if_pos rfl]
            · rw [zbr_f (fun z => e (by
                revert z
                cases win A B m d (!w) (ap X (p, (if w then 1 else 0), 0)) <;> cases w <;> decide))]
              exact nxt (fun _ => by rw [decide_eq_false e, Bool.and_false])
          · have e0 : nI (if opn A B p = true then room A B p - cX X p else 0) ≤ 0 := by
              by_cases hop : opn A B p = true
              · rw [if_pos hop]
                have : ¬ cX X p < room A B p := fun z => hcw (by unfold opn at hop; simp at hop; unfold cw; rw [hop.1.2, decide_eq_true z]; rfl)
                rw [show room A B p - cX X p = 0 by omega]
                decide
              · rw [if_neg hop]; decide
            rw [zbr_t e0]
            exact nxt (fun _ => by rw [Bool.eq_false_iff.mpr hcw, Bool.false_and])
        · have hop : ¬ opn A B p = true := fun z => hpn (opn_lt z)
          rw [if_neg hop, zbr_t (by decide)]
          exact nxt (fun z => absurd z hpn)
    rw [f_X1_wonByOne]
    unfold f_X1_wonByOne_b f_X1_wonByOne_39
    rw [zck_t (by rfl), zbr_t (show (0 : Int32) < nI (d + 1) from nI_lt (a := 0) (by omega) (by omega)), nI_pred]
    have go : zbd (f_X1_wonByOne F 67 28 (nI (mk (plE (lw B m X)) 6)) (nI (mk (dsE (lw B m X)) 6)) (nI d) (bI (!w)) σ) (fun r5 σ6 => zbr (r5 = bI w) (zck (zb (bI w)) (some (bI w, σ6))) (zlt 0 (fun v7 => f_X1_wonByOne_53 (f_X1_wonByOne F) 67 FU 28 (nI (mk (plE (lw B m X)) 6)) (nI (mk (dsE (lw B m X)) 6)) (nI (d + 1)) (bI w) v7 σ6))) = some (bI (win A B m (d + 1) w X), σ) := by
      rw [ih0, zbd_s, win]
      by_cases e : win A B m d (!w) X = w
      · rw [zbr_t (by rw [e]), zck_t (bI_z w), if_pos e]
      · rw [zbr_f (fun z => e (by
          revert z
          cases win A B m d (!w) X <;> cases w <;> decide)), zlt_e, if_neg e, loop e]
    cases w
    · rw [zbr_t (by rfl), zck_t (by rfl)]; exact go
    · rw [zbr_f (by decide), zck_t (by rfl)]; exact go
end DC
