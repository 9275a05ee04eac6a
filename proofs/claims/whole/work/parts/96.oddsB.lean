/-! odds, standOdds, mean -/
def PO (A B : Nat → Nat) (m : Nat) (S : Nat → Bool) : Bool := decide (vr A B m S = some 1)
def PS (A B : Nat → Nat) (m l : Nat) (S : Nat → Bool) : Bool := decide (sd (outr A D0) (ll B m S (B 48)) = some l)
def Zm (B : Nat → Nat) (m j : Nat) : Bool := decide (B (6 * j + 2) = m)
def qC (B : Nat → Nat) (m j : Nat) : Bool := rdB B j && Zm B m j
def upC (A B : Nat → Nat) (m : Nat) (P : (Nat → Bool) → Bool) : Nat := Ew (qC B m) (A 0) (100 - A 0) P 8 (fun _ => false)
def upM (A B : Nat → Nat) (P : (Nat → Bool) → Bool) : Nat := Ew (rd B) (A 0) (100 - A 0) P (B 48) (fun _ => false)
def cC (B : Nat → Nat) (m : Nat) : Nat := ct (qC B m) 8
def aC (B : Nat → Nat) : Nat := ct (rd B) (B 48)
def oC' (B : Nat → Nat) (m : Nat) : Nat := ct (fun j => rd B j && !Zm B m j) (B 48)
theorem PO_Z {A B : Nat → Nat} {m : Nat} : ∀ S S' : Nat → Bool, (∀ j, Zm B m j = true → S j = S' j) → PO A B m S = PO A B m S' := fun S S' h => by
  unfold PO vr
  rw [ll_cong (fun k hk e => h k (decide_eq_true e))]
theorem PS_Z {A B : Nat → Nat} {m l : Nat} : ∀ S S' : Nat → Bool, (∀ j, Zm B m j = true → S j = S' j) → PS A B m l S = PS A B m l S' := fun S S' h => by
  unfold PS
  rw [ll_cong (fun k hk e => h k (decide_eq_true e))]
theorem PO_n {A B : Nat → Nat} {m : Nat} : ∀ S S' : Nat → Bool, (∀ j, j < B 48 → S j = S' j) → PO A B m S = PO A B m S' := fun S S' h => by
  unfold PO vr
  rw [ll_cong (fun k hk e => h k hk)]
theorem PS_n {A B : Nat → Nat} {m l : Nat} : ∀ S S' : Nat → Bool, (∀ j, j < B 48 → S j = S' j) → PS A B m l S = PS A B m l S' := fun S S' h => by
  unfold PS
  rw [ll_cong (fun k hk e => h k hk)]
section OD
variable {b : Bool} {A B T : Nat → Nat} {D : Nat → Bool} {σ : zS} {P : (Nat → Bool) → Bool}
theorem qC_n (hB : vB A B) (m : Nat) {j : Nat} (h : B 48 ≤ j) : qC B m j = false := by
  unfold qC rdB
  rw [decide_eq_false (by omega)]; rfl
theorem aC_eq (hB : vB A B) (m : Nat) : aC B = cC B m + oC' B m := by
  unfold aC oC' cC
  rw [ct_split (rd B) (Zm B m) (B 48), ct_w (F := fun j => rd B j && Zm B m j) hB.1]
  congr 1
  exact ct_cong (fun k _ => by unfold qC rdB; rw [Bool.and_assoc])
theorem aC_8 (hB : vB A B) : aC B ≤ 8 := Nat.le_trans (ct_le _ _) hB.1
theorem aC_r (hB : vB A B) : aC B = ct (rdB B) 8 := ct_w hB.1
theorem up_eq (hA : vA A) (hB : vB A B) {m : Nat} (hP : ∀ S S' : Nat → Bool, (∀ j, Zm B m j = true → S j = S' j) → P S = P S') : upM A B P = upC A B m P * 100 ^ oC' B m := by
  have h0 := hA.1.1
  have h8 := hB.1
  have e1 := Ew_up (q := qC B m) (w := A 0) (v := 100 - A 0) (P := P) (n := B 48) (8 - B 48) (fun j h1 _ => qC_n hB m h1)
  rw [show B 48 + (8 - B 48) = 8 by omega] at e1
  unfold upM upC oC'
  rw [Ew_fac hP, e1, Ew_q (q := qC B m) (q' := fun j => rd B j && Zm B m j) (B 48) _ (fun j hj => by unfold qC rdB; rw [decide_eq_true hj, Bool.true_and]), show A 0 + (100 - A 0) = 100 by omega]
theorem upC_le (hA : vA A) (m : Nat) : upC A B m P ≤ 100 ^ cC B m := by
  have h0 := hA.1.1
  have := Ew_le (q := qC B m) (w := A 0) (v := 100 - A 0) (P := P) 8 (fun _ => false)
  rw [show A 0 + (100 - A 0) = 100 by omega] at this
  exact this
theorem pw8 {n : Nat} (h : n ≤ 8) : 100 ^ n ≤ 10 ^ 16 := by
  have : (100 : Nat) ^ n ≤ 100 ^ 8 := Nat.pow_le_pow_right (by decide) h
  have e : (100 : Nat) ^ 8 = 10 ^ 16 := by decide
  omega
theorem C_raised (x : Nat) {t : Nat} (ht : t < 1000) (σ : zS) : f_X10_raised (lN x) (nI t) σ = some (lN (x ^ t), σ) := by
  unfold f_X10_raised
  rw [zlt_e, zlt_e]
  refine zup (P := fun f k => f_X10_raised_5 f (lN x) (nI t) (lN (x ^ k)) (nI k) σ = _) t ?_ ?_ 0 (Nat.zero_le _) FU (by unfold FU; omega)
  · intro f
    rw [f_X10_raised_5, zbr_t (Int32.le_refl _)]
  · intro f k hk ih
    rw [f_X10_raised_5, zbr_f (nI_ge hk (by omega)), zlt_e, zlt_e, lN_mul, nI_1, ← Nat.pow_succ]
    exact ih
theorem C_ofm (hB : vB A B) (m : Nat) : nI (mk (rdB B) 8) &&& nI (mk (fun k => decide (B (6 * k + 2) = m)) (B 48)) = nI (mk (qC B m) 8) := by
  rw [mk_w (F := fun k => decide (B (6 * k + 2) = m)) hB.1, m_and]
  congr 1
  apply mk_cong
  intro j hj
  unfold qC rdB Zm
  cases decide (j < B 48) <;> simp
theorem C_lof (h : cU b A B T σ) (hA : vA A) (hB : vB A B) {m : Nat} (hm : m < 2 ^ 31) : f_X6_linesOf 32 (nI m) σ = some (nI (mk (fun k => decide (B (6 * k + 2) = m)) (B 48)), σ) :=
  C_linesOf h.n hB.1 (fun k hk => by have := hB.2.2 k hk; have := hA.1; omega) hm
theorem C_countRead (h : cU b A B T σ) (hA : vA A) (hB : vB A B) {m : Nat} (hm : m < 2 ^ 31) : f_X10_countRead 0 (nI m) σ = some (nI (cC B m), σ) := by
  unfold f_X10_countRead
  rw [zck_t v0, h.r3, zck_t v32, C_readN h hA hB, zbd_s, h.r3, zck_t v32, C_lof h hA hB hm, zbd_s, C_ofm hB, bc_m WC _ (by omega), zbd_s]
  rfl
theorem sub_le {d : Nat} {q : Nat → Bool} (hd : d < 256) (h : sub8 d q = true) : d ≤ mk q 8 := by
  have h2 := sub8_iff.mp h
  have : d = d &&& mk q 8 := by
    apply Nat.eq_of_testBit_eq
    intro i
    rw [Nat.testBit_and, mk_tb]
    by_cases hi : i < 8
    · rw [decide_eq_true hi, Bool.true_and]
      cases e : d.testBit i
      · rfl
      · rw [h2 i hi e]; rfl
    · have : d.testBit i = false := Nat.testBit_lt_two_pow (Nat.lt_of_lt_of_le hd (show 2 ^ 8 ≤ 2 ^ i from Nat.pow_le_pow_right (by decide) (by omega)))
      rw [this]; rfl
  rw [this]
  exact Nat.and_le_right
theorem gD_8 (q : Nat → Bool) (w v : Nat) {d : Nat} (hd : d < 256) : gD q w v P 8 (fun _ => false) d = if (sub8 d q && P (fun j => d.testBit j)) = true then w ^ ct (fun j => q j && !d.testBit j) 8 * v ^ cS d else 0 := by
  unfold gD
  rw [show (fun j => if j < 8 then d.testBit j else (fun _ => false) j) = fun j => d.testBit j from funext fun j => by
    by_cases hj : j < 8
    · rw [if_pos hj]
    · rw [if_neg hj, Nat.testBit_lt_two_pow (Nat.lt_of_lt_of_le hd (show 2 ^ 8 ≤ 2 ^ j from Nat.pow_le_pow_right (by decide) (by omega)))]]
  rfl
theorem upC_sm (m : Nat) : upC A B m P = sm (gD (qC B m) (A 0) (100 - A 0) P 8 (fun _ => false)) (mk (qC B m) 8 + 1) := by
  unfold upC
  have hlt : mk (qC B m) 8 < 256 := mk_lt _ 8
  have hz : sm (fun k => gD (qC B m) (A 0) (100 - A 0) P 8 (fun _ => false) (mk (qC B m) 8 + 1 + k)) (255 - mk (qC B m) 8) = 0 := sm_z (fun k hk => by
    rw [gD_8 _ _ _ (by omega), if_neg]
    intro z
    rw [Bool.and_eq_true] at z
    have := sub_le (by omega) z.1
    omega)
  rw [← Ew_dry, show 2 ^ 8 = (mk (qC B m) 8 + 1) + (255 - mk (qC B m) 8) by omega, sm_add, hz, Nat.add_zero]
theorem C_chance (h : cU b A B T σ) (hA : vA A) (hB : vB A B) {m : Nat} (hm : m < 2 ^ 31) (x2 : Int32) (hT : ∀ (d : Nat) (a c : zS → Option (Int64 × zS)), d < 256 → zbr (x2 = -1) (zbd (f_X10_verdict 0 (nI m) (nI d) σ) (fun r s => zbr (r = 1) (a s) (c s))) (zbd (f_X10_standing 0 (nI m) (nI d) σ) (fun r s => zbr (r = x2) (a s) (c s))) = if P (fun j => d.testBit j) then a σ else c σ) : f_X10_chance 0 (nI m) x2 σ = some (lN (upC A B m P), σ) := by
  have hA1 := hA.1
  have hlt : mk (qC B m) 8 < 256 := mk_lt _ 8
  unfold f_X10_chance
  rw [zck_t v0, h.r3, zck_t v32, C_readN h hA hB, zbd_s, h.r3, zck_t v32, C_lof h hA hB hm, zbd_s, C_ofm hB, zlt_e, zlt_e, zlt_e, upC_sm]
  refine zup (P := fun f d => f_X10_chance_23 0 f (nI m) x2 (nI (mk (qC B m) 8)) (lN (sm (gD (qC B m) (A 0) (100 - A 0) P 8 (fun _ => false)) d)) (nI d) σ = _) (mk (qC B m) 8 + 1) ?_ ?_ 0 (Nat.zero_le _) FU (by unfold FU; omega)
  · intro f
    rw [f_X10_chance_23, zbr_t (nI_lt (by omega) (by omega))]
  · intro f d hd ih
    have h100 : (100 : Int32) - nI (A 0) = nI (100 - A 0) := nI_sub (a := 100) (by omega)
    have ed : nI d = nI (mk (fun j => d.testBit j) 8) := congrArg nI (mk_of (n := 8) (show d < 2 ^ 8 by omega))
    have eb : nI (mk (qC B m) 8) &&& (nI d ^^^ -1) = nI (mk (fun j => qC B m j && !d.testBit j) 8) := by
      rw [ed, m_andn (by omega)]
    have c1 : ct (fun j => qC B m j && !d.testBit j) 8 ≤ 8 := ct_le _ 8
    have c2 := cS_8 d
    rw [sm, gD_8 _ _ _ (by omega)] at ih
    have skip : ¬ ((sub8 d (qC B m) && P (fun j => d.testBit j)) = true) → f_X10_chance_117 0 (f_X10_chance_23 0 f) (nI m) x2 (nI (mk (qC B m) 8)) (lN (sm (gD (qC B m) (A 0) (100 - A 0) P 8 (fun _ => false)) d)) (nI d) σ = some (lN (sm (gD (qC B m) (A 0) (100 - A 0) P 8 (fun _ => false)) (mk (qC B m) 8 + 1)), σ) := by
      intro z
      rw [if_neg z, Nat.add_zero] at ih
      unfold f_X10_chance_117
      rw [zlt_e, nI_1]
      exact ih
    rw [f_X10_chance_23, zbr_f (nI_nlt (by omega) (by omega))]
    by_cases e1 : sub8 d (qC B m) = true
    · rw [zbr_t ((sub_m (by omega) _).mpr e1)]
      refine Eq.trans (hT d (fun s => f_X10_chance_68 0 (f_X10_chance_23 0 f) (nI m) x2 (nI (mk (qC B m) 8)) (lN (sm (gD (qC B m) (A 0) (100 - A 0) P 8 (fun _ => false)) d)) (nI d) s) (fun s => f_X10_chance_117 0 (f_X10_chance_23 0 f) (nI m) x2 (nI (mk (qC B m) 8)) (lN (sm (gD (qC B m) (A 0) (100 - A 0) P 8 (fun _ => false)) d)) (nI d) s) (by omega)) ?_
      by_cases e2 : P (fun j => d.testBit j) = true
      · rw [if_pos (by rw [e1, e2]; rfl)] at ih
        rw [if_pos e2]
        unfold f_X10_chance_68 f_X10_chance_117
        rw [eb, bc_m WC _ (by omega), zbd_s, zlt_e, h.r8, zck_t h.k.1, h.2.1.1.1, nI_l (by omega), C_raised _ (by omega), zbd_s, h.r8, zck_t h.k.1, bc_s (by omega), zbd_s, h.2.1.1.1, h100, nI_l (by omega), C_raised _ (by omega), zbd_s, zlt_e, lN_mul, lN_add, zlt_e, nI_1]
        exact ih
      · rw [if_neg e2]
        exact skip (fun z => e2 (by rw [Bool.and_eq_true] at z; exact z.2))
    · rw [zbr_f (fun z => e1 ((sub_m (by omega) _).mp z))]
      exact skip (fun z => e1 (by rw [Bool.and_eq_true] at z; exact z.1))
theorem C_chO (h : cU b A B T σ) (hA : vA A) (hB : vB A B) {m : Nat} (hm : m < 2 ^ 31) : f_X10_chance 0 (nI m) (-1) σ = some (lN (upC A B m (PO A B m)), σ) := by
  refine C_chance h hA hB hm (-1) (fun d a c hd => ?_)
  have ed : nI d = nI (mk (fun j => d.testBit j) 8) := congrArg nI (mk_of (n := 8) (show d < 2 ^ 8 by omega))
  rw [zbr_t (by rfl), ed, C_vr h hA hB _ hm, zbd_s]
  by_cases q : vr A B m (fun j => d.testBit j) = some 1
  · rw [zbr_t (by rw [q]; rfl), if_pos (show PO A B m _ = true from decide_eq_true q)]
  · rw [zbr_f (fun z => q ((oI_1 (fun _ => vr_le hB)).mp z)), if_neg (show ¬ PO A B m _ = true from fun z => q (of_decide_eq_true z))]
theorem C_chS (h : cU b A B T σ) (hA : vA A) (hB : vB A B) {m l : Nat} (hm : m < 2 ^ 31) (hl : l < B 48) : f_X10_chance 0 (nI m) (nI l) σ = some (lN (upC A B m (PS A B m l)), σ) := by
  have h8 := hB.1
  refine C_chance h hA hB hm (nI l) (fun d a c hd => ?_)
  have ed : nI d = nI (mk (fun j => d.testBit j) 8) := congrArg nI (mk_of (n := 8) (show d < 2 ^ 8 by omega))
  rw [zbr_f (nI_m1 (by omega)), ed, C_standing h hA hB _ hm, zbd_s]
  by_cases q : sd (outr A D0) (ll B m (fun j => d.testBit j) (B 48)) = some l
  · rw [zbr_t (by rw [q]; rfl), if_pos (show PS A B m l _ = true from decide_eq_true q)]
  · rw [zbr_f (show ¬ oI (sd (outr A D0) (ll B m (fun j => d.testBit j) (B 48))) = nI l from fun z => q ((oI_inj (y := some l) (fun k e => by have := (sd_lt hB e).1; omega) (fun k e => by cases e; omega)).mp z)), if_neg (show ¬ PS A B m l _ = true from fun z => q (of_decide_eq_true z))]
theorem M_weightOf (h : mU A B T D σ) (hA : vA A) (hB : vB A B) {s : Nat} (hs : s < 256) : f_X11_weightOf 0 (nI s) σ = some (lN (wt (rd B) (A 0) (100 - A 0) s (B 48)), σ) := by
  have hA1 := hA.1
  have h8 := hB.1
  have h100 : (100 : Int32) - nI (A 0) = nI (100 - A 0) := nI_sub (a := 100) (by omega)
  unfold f_X11_weightOf
  rw [zck_t w0, zlt_e, zlt_e]
  refine zup (P := fun f k => f_X11_weightOf_5 0 f (nI s) (lN (wt (rd B) (A 0) (100 - A 0) s k)) (nI k) σ = _) (B 48) ?_ ?_ 0 (Nat.zero_le _) FU (by unfold FU; omega)
  · intro f
    rw [f_X11_weightOf_5, mr19 h.1, w7, zck_t (by decide), cl48, h.2.2.1 48 (by omega), zbr_t (Int32.le_refl _)]
  · intro f k hk ih
    rw [f_X11_weightOf_5, mr19 h.1, w7, zck_t (by decide), cl48, h.2.2.1 48 (by omega), zbr_f (nI_ge hk (by omega)), M_isRead h.r7 hB hA1.2.1 hk, zbd_s]
    rw [wt] at ih
    unfold f_X11_weightOf_59 f_X11_weightOf_61
    cases er : rd B k
    · rw [er, if_neg (by decide), Nat.mul_one] at ih
      rw [zbr_t (by rfl), zlt_e, nI_1]
      exact ih
    · rw [er, if_pos rfl] at ih
      rw [zbr_f (by decide), M_hasBit (by omega) (by omega), zbd_s, mr15 h.1, w3, show (0 : Int32).toNatClampNeg = 0 from by decide, h.2.1 0 (by omega), h100, nI_l (by omega), nI_l (by omega)]
      cases eb : s.testBit k
      · rw [eb, if_neg (by decide)] at ih
        rw [zbr_t (by rfl), zck_t (by decide), zlt_e, lN_mul, zlt_e, nI_1]
        exact ih
      · rw [eb, if_pos rfl] at ih
        rw [zbr_f (by decide), zck_t (by decide), zlt_e, lN_mul, zlt_e, nI_1]
        exact ih
theorem M_allWeight (h : mU A B T D σ) (hA : vA A) (hB : vB A B) : f_X11_allWeight 0 σ = some (lN (100 ^ aC B), σ) := by
  have hA1 := hA.1
  have h8 := hB.1
  unfold f_X11_allWeight
  rw [zck_t w0, zlt_e, zlt_e]
  refine zup (P := fun f k => f_X11_allWeight_4 0 f (lN (100 ^ ct (rd B) k)) (nI k) σ = _) (B 48) ?_ ?_ 0 (Nat.zero_le _) FU (by unfold FU; omega)
  · intro f
    rw [f_X11_allWeight_4, mr19 h.1, w7, zck_t (by decide), cl48, h.2.2.1 48 (by omega), zbr_t (Int32.le_refl _)]
    rfl
  · intro f k hk ih
    rw [f_X11_allWeight_4, mr19 h.1, w7, zck_t (by decide), cl48, h.2.2.1 48 (by omega), zbr_f (nI_ge hk (by omega)), M_isRead h.r7 hB hA1.2.1 hk, zbd_s]
    rw [ct] at ih
    unfold f_X11_allWeight_32
    cases er : rd B k
    · rw [er, if_neg (by decide), Nat.add_zero] at ih
      rw [zbr_t (by rfl), zlt_e, nI_1]
      exact ih
    · rw [er, if_pos rfl, Nat.pow_succ, ← lN_mul] at ih
      rw [zbr_f (by decide), zlt_e, zlt_e, nI_1]
      exact ih
theorem gW_n (hB : vB A B) (w v : Nat) (hP : ∀ S S' : Nat → Bool, (∀ j, j < B 48 → S j = S' j) → P S = P S') {s : Nat} (hs : s < 2 ^ B 48) : gW (rd B) w v P (B 48) (fun _ => false) s = if (sub8 s (rdB B) && P (fun k => rd B k && !s.testBit k)) = true then wt (rd B) w v s (B 48) else 0 := by
  have h8 := hB.1
  unfold gW
  have e1 : al (fun j => !(s.testBit j && !rd B j)) (B 48) = sub8 s (rdB B) := by
    rw [Bool.eq_iff_iff, al_iff, sub8_iff]
    constructor
    · intro h k hk e
      by_cases z : k < B 48
      · have := h k z
        rw [e] at this
        unfold rdB
        rw [decide_eq_true z, Bool.true_and]
        simpa using this
      · rw [Nat.testBit_lt_two_pow (Nat.lt_of_lt_of_le hs (Nat.pow_le_pow_right (by decide) (by omega)))] at e
        cases e
    · intro h k hk
      cases e : s.testBit k
      · rfl
      · have := h k (by omega) e
        unfold rdB at this
        rw [decide_eq_true hk, Bool.true_and] at this
        rw [this]; rfl
  rw [e1, hP (fun j => if j < B 48 then rd B j && !s.testBit j else (fun _ => false) j) (fun k => rd B k && !s.testBit k) (fun j hj => if_pos hj)]
theorem upM_sm : upM A B P = sm (gW (rd B) (A 0) (100 - A 0) P (B 48) (fun _ => false)) (2 ^ B 48) := (Ew_wet (B 48) _).symm
theorem M_doneWeight (h : mU A B T D0 σ) (hA : vA A) (hB : vB A B) {m : Nat} (hm : m < 2 ^ 31) : zH (f_X11_doneWeight 0 (nI m) σ) (fun x σ' => x = lN (upM A B (PO A B m)) ∧ fr Pl σ σ') := by
  have h8 := hB.1
  have hpow : (2 : Nat) ^ B 48 ≤ 2 ^ 8 := Nat.pow_le_pow_right (by decide) h8
  unfold f_X11_doneWeight
  refine zH_ck w0 (zH_lt (zH_lt ?_))
  rw [upM_sm]
  suffices key : ∀ k, k ≤ 2 ^ B 48 → ∀ f, 2 ^ B 48 - k < f → ∀ τ, fr Pl σ τ → zH (f_X11_doneWeight_5 0 f (nI m) (lN (sm (gW (rd B) (A 0) (100 - A 0) (PO A B m) (B 48) (fun _ => false)) k)) (nI k) τ) (fun x σ' => x = lN (sm (gW (rd B) (A 0) (100 - A 0) (PO A B m) (B 48) (fun _ => false)) (2 ^ B 48)) ∧ fr Pl σ σ') from key 0 (Nat.zero_le _) FU (by unfold FU; omega) σ (fr_r Pl σ)
  refine zup (P := fun f k => ∀ τ, fr Pl σ τ → zH (f_X11_doneWeight_5 0 f (nI m) (lN (sm (gW (rd B) (A 0) (100 - A 0) (PO A B m) (B 48) (fun _ => false)) k)) (nI k) τ) _) (2 ^ B 48) ?_ ?_
  · intro f τ hF
    have ht := h.l hF
    rw [f_X11_doneWeight_5, mr19 ht.1, w7, cl48, ht.2.2.1 48 (by omega), nI_shl1 _ (by omega)]
    exact zH_ck (by decide) (zH_t (Int32.le_refl _) (zH_ok ⟨rfl, hF⟩))
  · intro f s hs ih τ hF
    have ht := h.l hF
    rw [sm, gW_n hB _ _ PO_n hs] at ih
    have skip : ∀ υ, fr Pl σ υ → ¬ ((sub8 s (rdB B) && PO A B m (fun k => rd B k && !s.testBit k)) = true) → zH (f_X11_doneWeight_63 0 (f_X11_doneWeight_5 0 f) (nI m) (nI s) (lN (sm (gW (rd B) (A 0) (100 - A 0) (PO A B m) (B 48) (fun _ => false)) s)) υ) (fun x σ' => x = lN (sm (gW (rd B) (A 0) (100 - A 0) (PO A B m) (B 48) (fun _ => false)) (2 ^ B 48)) ∧ fr Pl σ σ') := by
      intro υ hu z
      have ih := ih υ hu
      rw [if_neg z, ← lN_add] at ih
      unfold f_X11_doneWeight_63 f_X11_doneWeight_64
      refine zH_lt (zH_lt ?_)
      rw [nI_1]
      exact ih
    rw [f_X11_doneWeight_5, mr19 ht.1, w7, cl48, ht.2.2.1 48 (by omega), nI_shl1 _ (by omega)]
    refine zH_ck (by decide) (zH_f (nI_ge hs (by omega)) (zH_eq (M_allRead ht hA hB) ?_))
    by_cases e1 : sub8 s (rdB B) = true
    · refine zH_t ((sub_m (by omega) _).mpr e1) ?_
      have ev := M_vrw ht hA hB (fun k => s.testBit k) hm
      rw [← mk_of (n := 8) (show s < 2 ^ 8 by omega)] at ev
      rw [mr19 ht.1, w7, ht.2.2.1 48 (by omega)]
      refine zH_ck (by decide) (zH_call ev ?_)
      rintro x υ ⟨rfl, hu⟩
      have hu := hF.tr hu
      by_cases e2 : vr A B m (fun k => rd B k && !s.testBit k) = some 1
      · refine zH_t (by rw [e2]; rfl) (zH_eq (M_weightOf (h.l hu) hA hB (by omega)) ?_)
        have ih := ih υ hu
        rw [if_pos (by rw [e1]; unfold PO; rw [decide_eq_true e2]; rfl), ← lN_add] at ih
        unfold f_X11_doneWeight_64
        refine zH_lt (zH_lt ?_)
        rw [nI_1]
        exact ih
      · exact zH_f (fun z => e2 ((oI_1 (fun _ => vr_le hB)).mp z)) (skip υ hu (fun z => e2 (by rw [Bool.and_eq_true] at z; exact of_decide_eq_true z.2)))
    · exact zH_f (fun z => e1 ((sub_m (by omega) _).mp z)) (skip τ hF (fun z => e1 (by rw [Bool.and_eq_true] at z; exact z.1)))
end OD
theorem O_odds : zO_odds Rel := by
  intro σc σm x y hR
  refine hR.q (fun b A B T hA hB hT hc hm => ?_)
  have hA1 := hA.1
  have hg := hm.g
  cases hx : inR x (A 4)
  · refine ⟨(-1 : Int32).toInt64, 1, by decide, QC_any ?_, QM_any ?_⟩
    · unfold f_X10_odds; rw [zck_t v0, C_isMatter hc hA, hx, zbd_s, zbr_t (by rfl), C_refuse, zbd_s]
    · unfold f_X11_odds; rw [zck_t w0, M_good, zbd_s, M_isMatter hg hA, hx, zbd_s, zbr_t (by rfl), M_no, zbd_s]
  · obtain ⟨m, hmm, rfl⟩ := inR_t hx
    have ht : cU b A B T (zpi σc 0 10 0) := hc.f ((fr_r Pc σc).pi _ (by unfold Pc; omega))
    have ae := aC_eq hB.1 m
    have a8 := aC_8 hB.1
    have p1 := pw8 (n := cC B m) (by omega)
    have p2 := pw8 (n := aC B) a8
    have u1 := upC_le (B := B) (P := PO A B m) hA m
    have ue := up_eq (P := PO A B m) hA hB.1 PO_Z
    have hpos : 0 < 100 ^ oC' B m := Nat.pow_pos (by decide)
    have hde : 100 ^ aC B = 100 ^ cC B m * 100 ^ oC' B m := by rw [ae, Nat.pow_add]
    have hu2 : upM A B (PO A B m) ≤ 100 ^ aC B := by rw [ue, hde]; exact Nat.mul_le_mul_right _ u1
    refine ⟨lN ((if y = 0 then upC A B m (PO A B m) else 100 ^ cC B m) / Nat.gcd (100 ^ cC B m) (upC A B m (PO A B m))), 0, by decide, QC_any ?_, QM_ansP Pl_Pq (by unfold Pl; omega) ?_⟩
    · unfold f_X10_odds
      rw [zck_t v0, C_isMatter hc hA, hx, zbd_s, zbr_f (by decide), C_grant, zbd_s, C_chO ht hA hB.1 (by omega), zbd_s, C_countRead ht hA hB.1 (by omega), zbd_s]
      have e100 : f_X10_raised 100 (nI (cC B m)) (zpi σc 0 10 0) = some (lN (100 ^ cC B m), zpi σc 0 10 0) := C_raised 100 (by omega) _
      rw [e100, zbd_s, C_partOf (by omega) (by omega) (Nat.pow_pos (by decide)), zbd_s]
    · unfold f_X11_odds
      refine zH_ck w0 (zH_eq (M_good _) (zH_eq (M_isMatter hg hA _) ?_))
      rw [hx]
      refine zH_f (by decide) (zH_call (M_doneWeight hg hA hB.1 (by omega)) ?_)
      rintro z τ ⟨rfl, hF⟩
      refine zH_eq (M_allWeight (hg.l hF) hA hB.1) (zH_eq (M_lowest (by omega) (by omega) (Nat.pow_pos (by decide)) y τ) (zH_ok ⟨?_, hF⟩))
      rw [ue, hde, low_mul _ _ _ hpos]
theorem O_standOdds : zO_standOdds Rel := by
  intro σc σm x y hR
  refine hR.q (fun b A B T hA hB hT hc hm => ?_)
  have hA1 := hA.1
  have hg := hm.g
  have h8 := hB.1.1
  cases hx : inR x (B 48)
  · refine ⟨(-1 : Int32).toInt64, 1, by decide, QC_any ?_, QM_any ?_⟩
    · unfold f_X10_standOdds; rw [zck_t v0, C_isLine hc hB.1, hx, zbd_s, zbr_t (by rfl), C_refuse, zbd_s]
    · unfold f_X11_standOdds; rw [zck_t w0, M_good, zbd_s, M_isLine hg hB.1, hx, zbd_s, zbr_t (by rfl), M_no, zbd_s]
  · obtain ⟨l, hl, rfl⟩ := inR_t hx
    have hbl := hB.1.2.2 l hl
    have hpow : (2 : Nat) ^ B 48 ≤ 2 ^ 8 := Nat.pow_le_pow_right (by decide) h8
    have ht : cU b A B T (zpi σc 0 10 0) := hc.f ((fr_r Pc σc).pi _ (by unfold Pc; omega))
    have ae := aC_eq hB.1 (B (6 * l + 2))
    have a8 := aC_8 hB.1
    have p1 := pw8 (n := cC B (B (6 * l + 2))) (by omega)
    have p2 := pw8 (n := aC B) a8
    have u1 := upC_le (B := B) (P := PS A B (B (6 * l + 2)) l) hA (B (6 * l + 2))
    have ue := up_eq (P := PS A B (B (6 * l + 2)) l) hA hB.1 PS_Z
    have hpos : 0 < 100 ^ oC' B (B (6 * l + 2)) := Nat.pow_pos (by decide)
    have hde : 100 ^ aC B = 100 ^ cC B (B (6 * l + 2)) * 100 ^ oC' B (B (6 * l + 2)) := by rw [ae, Nat.pow_add]
    have hu2 : upM A B (PS A B (B (6 * l + 2)) l) ≤ 100 ^ aC B := by rw [ue, hde]; exact Nat.mul_le_mul_right _ u1
    refine ⟨lN ((if y = 0 then upC A B (B (6 * l + 2)) (PS A B (B (6 * l + 2)) l) else 100 ^ cC B (B (6 * l + 2))) / Nat.gcd (100 ^ cC B (B (6 * l + 2))) (upC A B (B (6 * l + 2)) (PS A B (B (6 * l + 2)) l))), 0, by decide, QC_any ?_, QM_ansP Pl_Pq (by unfold Pl; omega) ?_⟩
    · unfold f_X10_standOdds
      have hrow := (ht.n.2.2.2.2 l hl).2.2.1
      rw [zck_t v0, C_isLine hc hB.1, hx, zbd_s, zbr_f (by decide), C_grant, zbd_s, ht.r3, zck_t v32, ht.n.1.2.1.2.2.1, ht.n.1.2.2.2.2.1, zck_t (zok_p (by omega) (by decide)), nI_clamp (by omega), hrow, zlt_e, C_chS ht hA hB.1 (by omega) hl, zbd_s, C_countRead ht hA hB.1 (by omega), zbd_s]
      have e100 : f_X10_raised 100 (nI (cC B (B (6 * l + 2)))) (zpi σc 0 10 0) = some (lN (100 ^ cC B (B (6 * l + 2))), zpi σc 0 10 0) := C_raised 100 (by omega) _
      rw [e100, zbd_s, C_partOf (by omega) (by omega) (Nat.pow_pos (by decide)), zbd_s]
    · unfold f_X11_standOdds
      refine zH_ck w0 (zH_eq (M_good _) (zH_eq (M_isLine hg hB.1 _) ?_))
      rw [hx]
      refine zH_f (by decide) (zH_lt (zH_lt ?_))
      have fin : lN ((if y = 0 then upM A B (PS A B (B (6 * l + 2)) l) else 100 ^ aC B) / Nat.gcd (100 ^ aC B) (upM A B (PS A B (B (6 * l + 2)) l))) = lN ((if y = 0 then upC A B (B (6 * l + 2)) (PS A B (B (6 * l + 2)) l) else 100 ^ cC B (B (6 * l + 2))) / Nat.gcd (100 ^ cC B (B (6 * l + 2))) (upC A B (B (6 * l + 2)) (PS A B (B (6 * l + 2)) l))) := by rw [ue, hde, low_mul _ _ _ hpos]
      rw [← fin]
      suffices key : ∀ k, k ≤ 2 ^ B 48 → ∀ f, 2 ^ B 48 - k < f → ∀ τ, fr Pl (gd σm) τ → zH (f_X11_standOdds_24 0 f (nI l) y (lN (sm (gW (rd B) (A 0) (100 - A 0) (PS A B (B (6 * l + 2)) l) (B 48) (fun _ => false)) k)) (nI k) τ) (fun x σ' => x = lN ((if y = 0 then upM A B (PS A B (B (6 * l + 2)) l) else 100 ^ aC B) / Nat.gcd (100 ^ aC B) (upM A B (PS A B (B (6 * l + 2)) l))) ∧ fr Pl (gd σm) σ') from key 0 (Nat.zero_le _) FU (by unfold FU; omega) _ (fr_r Pl _)
      refine zup (P := fun f k => ∀ τ, fr Pl (gd σm) τ → zH (f_X11_standOdds_24 0 f (nI l) y (lN (sm (gW (rd B) (A 0) (100 - A 0) (PS A B (B (6 * l + 2)) l) (B 48) (fun _ => false)) k)) (nI k) τ) _) (2 ^ B 48) ?_ ?_
      · intro f τ hF
        have hu := hg.l hF
        rw [f_X11_standOdds_24, mr19 hu.1, w7, cl48, hu.2.2.1 48 (by omega), nI_shl1 _ (by omega), ← upM_sm]
        exact zH_ck (by decide) (zH_t (Int32.le_refl _) (zH_eq (M_allWeight hu hA hB.1) (zH_eq (M_lowest (by omega) (by omega) (Nat.pow_pos (by decide)) y τ) (zH_ok ⟨rfl, hF⟩))))
      · intro f s hs ih τ hF
        have hu := hg.l hF
        rw [sm, gW_n hB.1 _ _ PS_n hs] at ih
        have skip : ∀ υ, fr Pl (gd σm) υ → ¬ ((sub8 s (rdB B) && PS A B (B (6 * l + 2)) l (fun k => rd B k && !s.testBit k)) = true) → zH (f_X11_standOdds_81 0 (f_X11_standOdds_24 0 f) (nI l) y (nI s) (lN (sm (gW (rd B) (A 0) (100 - A 0) (PS A B (B (6 * l + 2)) l) (B 48) (fun _ => false)) s)) υ) (fun x σ' => x = lN ((if y = 0 then upM A B (PS A B (B (6 * l + 2)) l) else 100 ^ aC B) / Nat.gcd (100 ^ aC B) (upM A B (PS A B (B (6 * l + 2)) l))) ∧ fr Pl (gd σm) σ') := by
          intro υ hv z
          have ih := ih υ hv
          rw [if_neg z, ← lN_add] at ih
          unfold f_X11_standOdds_81 f_X11_standOdds_82
          refine zH_lt (zH_lt ?_)
          rw [nI_1]
          exact ih
        rw [f_X11_standOdds_24, mr19 hu.1, w7, cl48, hu.2.2.1 48 (by omega), nI_shl1 _ (by omega)]
        refine zH_ck (by decide) (zH_f (nI_ge hs (by omega)) (zH_eq (M_allRead hu hA hB.1) ?_))
        by_cases e1 : sub8 s (rdB B) = true
        · refine zH_t ((sub_m (by omega) _).mpr e1) ?_
          rw [mr19 hu.1, w7, ix2, nI_clamp (by omega), hu.2.2.1 _ (by omega)]
          have ev := M_standsOf hu hA hB.1 (fun k => s.testBit k) (m := B (6 * l + 2)) (by omega)
          rw [← mk_of (n := 8) (show s < 2 ^ 8 by omega)] at ev
          refine zH_ck (zok_p (by omega) (by decide)) (zH_call ev ?_)
          rintro x υ ⟨rfl, hv⟩
          have hv := hF.tr hv
          by_cases e2 : sd (outr A D0) (ll B (B (6 * l + 2)) (fun k => rd B k && !s.testBit k) (B 48)) = some l
          · refine zH_t (by rw [e2]; rfl) (zH_eq (M_weightOf (hg.l hv) hA hB.1 (by omega)) ?_)
            have ih := ih υ hv
            rw [if_pos (by rw [e1]; unfold PS; rw [decide_eq_true e2]; rfl), ← lN_add] at ih
            unfold f_X11_standOdds_82
            refine zH_lt (zH_lt ?_)
            rw [nI_1]
            exact ih
          · exact zH_f (fun z => e2 ((oI_inj (y := some l) (fun k e => by have := (sd_lt hB.1 e).1; omega) (fun k e => by cases e; omega)).mp z)) (skip υ hv (fun z => e2 (by rw [Bool.and_eq_true] at z; exact of_decide_eq_true z.2)))
        · exact zH_f (fun z => e1 ((sub_m (by omega) _).mp z)) (skip τ hF (fun z => e1 (by rw [Bool.and_eq_true] at z; exact z.1)))
theorem O_mean : zO_mean Rel := by
  intro σc σm y hR
  refine hR.q (fun b A B T hA hB hT hc hm => ?_)
  have hA1 := hA.1
  have hg := hm.g
  by_cases q : A 1 = 0
  · refine ⟨(-1 : Int32).toInt64, 1, by decide, QC_any ?_, QM_any ?_⟩
    · unfold f_X10_mean; rw [zck_t v0, C_noLetter hc hA, decide_eq_true q, zbd_s, zbr_f (by decide), C_refuse, zbd_s]
    · unfold f_X11_mean; rw [zck_t w0, M_good, zbd_s, zbr_t ((M_hl hg).mpr q), M_no, zbd_s]
  · have ht : cU b A B T (zpi σc 0 10 0) := hc.f ((fr_r Pc σc).pi _ (by unfold Pc; omega))
    have a8 := aC_8 hB.1
    have p2 := pw8 (n := aC B) a8
    have ue : ∀ m, upC A B m (PO A B m) * 100 ^ (aC B - cC B m) = upM A B (PO A B m) := fun m => by
      rw [up_eq (P := PO A B m) hA hB.1 PO_Z]
      have ae := aC_eq hB.1 m
      rw [show aC B - cC B m = oC' B m by omega]
    have ub : ∀ m, upM A B (PO A B m) ≤ 100 ^ aC B := fun m => by
      have h0 := hA1.1
      have := Ew_le (q := rd B) (w := A 0) (v := 100 - A 0) (P := PO A B m) (B 48) (fun _ => false)
      rw [show A 0 + (100 - A 0) = 100 by omega] at this
      exact this
    have sb : sm (fun m => upM A B (PO A B m)) (A 4) ≤ A 4 * 100 ^ aC B := sm_b (fun k _ => ub k)
    have sb2 : A 4 * 100 ^ aC B ≤ 4 * 100 ^ aC B := Nat.mul_le_mul_right _ (by omega)
    refine ⟨lN ((if y = 0 then sm (fun m => upM A B (PO A B m)) (A 4) else 100 ^ aC B) / Nat.gcd (100 ^ aC B) (sm (fun m => upM A B (PO A B m)) (A 4))), 0, by decide, QC_any ?_, QM_ansP Pl_Pq (by unfold Pl; omega) ?_⟩
    · unfold f_X10_mean
      rw [zck_t v0, C_noLetter hc hA, decide_eq_false q, zbd_s, zbr_t (by rfl), C_grant, zbd_s, ht.r3, zck_t v32, C_readN ht hA hB.1, zbd_s, bc_m WC _ (by omega), zbd_s, zlt_e, zlt_e, zlt_e, ← aC_r hB.1]
      have e100 : ∀ t, t ≤ 8 → f_X10_raised 100 (nI t) (zpi σc 0 10 0) = some (lN (100 ^ t), zpi σc 0 10 0) := fun t h => C_raised 100 (by omega) _
      refine zup (P := fun f k => f_X10_mean_36 0 f y (nI (aC B)) (lN (sm (fun m => upM A B (PO A B m)) k)) (nI k) (zpi σc 0 10 0) = _) (A 4) ?_ ?_ 0 (Nat.zero_le _) FU (by unfold FU; omega)
      · intro f
        rw [f_X10_mean_36, ht.r8, zck_t ht.k.1, ht.2.1.1.2.2.2.2.1, zbr_t (Int32.le_refl _), e100 _ a8, zbd_s, C_partOf (by omega) (by omega) (Nat.pow_pos (by decide)), zbd_s]
      · intro f k hk ih
        have ae := aC_eq hB.1 k
        rw [sm, ← ue k] at ih
        rw [f_X10_mean_36, ht.r8, zck_t ht.k.1, ht.2.1.1.2.2.2.2.1, zbr_f (nI_ge hk (by omega)), C_chO ht hA hB.1 (by omega), zbd_s, C_countRead ht hA hB.1 (by omega), zbd_s, nI_sub (by omega), e100 _ (by omega), zbd_s, lN_mul, lN_add, zlt_e, zlt_e, nI_1]
        exact ih
    · unfold f_X11_mean
      refine zH_ck w0 (zH_eq (M_good _) (zH_f (fun z => q ((M_hl hg).mp z)) (zH_lt (zH_lt ?_))))
      suffices key : ∀ k, k ≤ A 4 → ∀ f, A 4 - k < f → ∀ τ, fr Pl (gd σm) τ → zH (f_X11_mean_23 0 f y (lN (sm (fun m => upM A B (PO A B m)) k)) (nI k) τ) (fun x σ' => x = lN ((if y = 0 then sm (fun m => upM A B (PO A B m)) (A 4) else 100 ^ aC B) / Nat.gcd (100 ^ aC B) (sm (fun m => upM A B (PO A B m)) (A 4))) ∧ fr Pl (gd σm) σ') from key 0 (Nat.zero_le _) FU (by unfold FU; omega) _ (fr_r Pl _)
      refine zup (P := fun f k => ∀ τ, fr Pl (gd σm) τ → zH (f_X11_mean_23 0 f y (lN (sm (fun m => upM A B (PO A B m)) k)) (nI k) τ) _) (A 4) ?_ ?_
      · intro f τ hF
        have hu := hg.l hF
        rw [f_X11_mean_23, mr15 hu.1, w3, cl4, hu.2.1 4 (by omega)]
        exact zH_ck (by decide) (zH_t (Int32.le_refl _) (zH_eq (M_allWeight hu hA hB.1) (zH_eq (M_lowest (by omega) (by omega) (Nat.pow_pos (by decide)) y τ) (zH_ok ⟨rfl, hF⟩))))
      · intro f k hk ih τ hF
        have hu := hg.l hF
        rw [f_X11_mean_23, mr15 hu.1, w3, cl4, hu.2.1 4 (by omega)]
        refine zH_ck (by decide) (zH_f (nI_ge hk (by omega)) (zH_call (M_doneWeight hu hA hB.1 (by omega)) ?_))
        rintro x υ ⟨rfl, hv⟩
        have ih := ih υ (hF.tr hv)
        rw [sm, ← lN_add] at ih
        refine zH_lt (zH_lt ?_)
        rw [nI_1]
        exact ih
