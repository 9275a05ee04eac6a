/-! rings: the reference's search -/
theorem M_copy {a b x y n ka kb : Nat} {σ : zS} (ha : WM.2 a = (100, ka)) (hb : WM.2 b = (100, kb)) (hab : a ≠ b) (hx : x + n ≤ ka) (hy : y + n ≤ kb) (hk : ka < 1999 ∧ kb < 1999) : zH (f_X11_copy a (nI x) b (nI y) (nI n) σ) (fun _ σ' => fr (fun c k => c = b ∧ y ≤ k ∧ k < y + n) σ σ' ∧ ∀ j, j < n → σ'.1 b (y + j) = σ.1 a (x + j)) := by
  unfold f_X11_copy
  refine zH_lt ?_
  suffices key : ∀ k, k ≤ n → ∀ f, n - k < f → ∀ τ, fr (fun c k => c = b ∧ y ≤ k ∧ k < y + n) σ τ → (∀ j, j < k → τ.1 b (y + j) = σ.1 a (x + j)) → zH (f_X11_copy_3 f a (nI x) b (nI y) (nI n) (nI k) τ) (fun _ σ' => fr (fun c k => c = b ∧ y ≤ k ∧ k < y + n) σ σ' ∧ ∀ j, j < n → σ'.1 b (y + j) = σ.1 a (x + j)) from key 0 (Nat.zero_le _) FU (by unfold FU; omega) σ (fr_r _ σ) (fun j hj => absurd hj (Nat.not_lt_zero j))
  refine zup (P := fun f k => ∀ τ, fr (fun c k => c = b ∧ y ≤ k ∧ k < y + n) σ τ → (∀ j, j < k → τ.1 b (y + j) = σ.1 a (x + j)) → zH (f_X11_copy_3 f a (nI x) b (nI y) (nI n) (nI k) τ) _) n ?_ ?_
  · intro f τ hF hd
    rw [f_X11_copy_3]
    exact zH_t (Int32.le_refl _) (zH_ok ⟨hF, hd⟩)
  · intro f k hk2 ih τ hF hd
    rw [f_X11_copy_3, ha, hb, nI_add, nI_add, nI_clamp (by omega), nI_clamp (by omega)]
    refine zH_f (nI_ge hk2 (by omega)) (zH_ck (zok_p (by omega) (by omega)) (zH_ck (zok_p (by omega) (by omega)) (zH_lt (zH_lt ?_))))
    rw [nI_1]
    refine ih _ (hF.pi _ ⟨rfl, by omega, by omega⟩) (fun j hj => ?_)
    by_cases e : j = k
    · subst e
      rw [zpi_eq]
      exact hF.2 a _ (fun z => hab z.1)
    · rw [zpi_ne _ _ (by omega)]
      exact hd j (by omega)
def Pr (a k : Nat) : Prop := a = 15 ∨ a = 16 ∨ (a = 0 ∧ k = 35)
theorem Pr_Pq (a k : Nat) (h : Pr a k) : Pq a k := by unfold Pr at h; unfold Pq; omega
/-- the first ring of three that a call at this depth meets -/
def RR (o : Nat → Nat → Bool) (np p k : Nat) (W : Nat → Nat) : Option (Nat × Nat) :=
  if k = 1 then (rs1 o np p).bind fun q => (rs2 o np p q).map fun r => (q, r)
  else if k = 2 then (rs2 o np p (W 1)).map fun r => (W 1, r)
  else if k = 3 then (if o (W 2) p then some (W 1, W 2) else none)
  else none
def wset (W : Nat → Nat) (k q : Nat) : Nat → Nat := fun j => if j = k then q else W j
/-- of those below q that come next -/
def RL (o : Nat → Nat → Bool) (np p k : Nat) (W : Nat → Nat) (M : Nat → Bool) : Nat → Option (Nat × Nat)
  | 0 => none
  | q + 1 => match RL o np p k W M q with
    | some t => some t
    | none => if !M q && o (W (k - 1)) q then RR o np p (k + 1) (wset W k q) else none
def path (o : Nat → Nat → Bool) (np p k : Nat) (W : Nat → Nat) (M : Nat → Bool) : Prop := W 0 = p ∧ (∀ j, j < k → W j < np) ∧ (∀ j, j + 1 < k → o (W j) (W (j + 1)) = true) ∧ (∀ j, 1 ≤ j → j < k → W j ≠ p) ∧ (∀ q, q < np → (M q = true ↔ ∃ j, j < k ∧ W j = q)) ∧ ct M np = k
theorem RL_some {o : Nat → Nat → Bool} {np p k : Nat} {W : Nat → Nat} {M : Nat → Bool} : ∀ n, (RL o np p k W M n = none → ∀ q, q < n → M q = false → o (W (k - 1)) q = true → RR o np p (k + 1) (wset W k q) = none) ∧ ∀ t, RL o np p k W M n = some t → ∃ q, q < n ∧ M q = false ∧ o (W (k - 1)) q = true ∧ RR o np p (k + 1) (wset W k q) = some t ∧ ∀ r, r < q → M r = false → o (W (k - 1)) r = true → RR o np p (k + 1) (wset W k r) = none
  | 0 => ⟨fun _ q h => absurd h (Nat.not_lt_zero q), fun t h => by cases h⟩
  | n + 1 => by
    obtain ⟨i1, i2⟩ := RL_some (o := o) (np := np) (p := p) (k := k) (W := W) (M := M) n
    rw [RL]
    cases e : RL o np p k W M n with
    | some t =>
      refine ⟨fun h => (nomatch h), fun t' h => ?_⟩
      cases h
      obtain ⟨q, h1, h2⟩ := i2 t e
      exact ⟨q, by omega, h2⟩
    | none =>
      have i1 := i1 e
      by_cases c : (!M n && o (W (k - 1)) n) = true
      · show ((if (!M n && o (W (k - 1)) n) = true then RR o np p (k + 1) (wset W k n) else none) = none → _) ∧ ∀ t, (if (!M n && o (W (k - 1)) n) = true then RR o np p (k + 1) (wset W k n) else none) = some t → _
        rw [if_pos c]
        rw [Bool.and_eq_true, Bool.not_eq_true'] at c
        refine ⟨fun h q hq a1 a2 => ?_, fun t h => ⟨n, by omega, c.1, c.2, h, fun r hr => i1 r hr⟩⟩
        by_cases z : q = n
        · subst z; exact h
        · exact i1 q (by omega) a1 a2
      · show ((if (!M n && o (W (k - 1)) n) = true then RR o np p (k + 1) (wset W k n) else none) = none → _) ∧ ∀ t, (if (!M n && o (W (k - 1)) n) = true then RR o np p (k + 1) (wset W k n) else none) = some t → _
        rw [if_neg c]
        refine ⟨fun _ q hq a1 a2 => ?_, fun t h => by cases h⟩
        by_cases z : q = n
        · subst z; exact absurd (by rw [a1, a2]; rfl) c
        · exact i1 q (by omega) a1 a2
theorem rs2_iff {o : Nat → Nat → Bool} {np p q r : Nat} : rs2 o np p q = some r ↔ r < np ∧ (o q r && o r p) = true ∧ ∀ j, j < r → (o q j && o j p) = false := fi_iff
theorem RL_RR {o : Nat → Nat → Bool} {np p k : Nat} {W : Nat → Nat} {M : Nat → Bool} (ht : tourn o np) (hp : path o np p k W M) (h1 : 1 ≤ k) (h3 : k = 3 → o (W 2) p = false) : RL o np p k W M np = RR o np p k W := by
  obtain ⟨p1, p2, p3, p4, p5, p6⟩ := hp
  have hpn : p < np := by rw [← p1]; exact p2 0 (by omega)
  obtain ⟨s1, s2⟩ := RL_some (o := o) (np := np) (p := p) (k := k) (W := W) (M := M) np
  have hk : k = 1 ∨ k = 2 ∨ k = 3 ∨ 4 ≤ k := by omega
  rcases hk with rfl | rfl | rfl | hk
  · -- the first step
    have hch : ∀ q, RR o np p 2 (wset W 1 q) = (rs2 o np p q).map fun r => (q, r) := fun q => rfl
    have hM : ∀ q, q < np → o p q = true → M q = false := by
      intro q hq e
      cases e2 : M q
      · rfl
      · obtain ⟨j, hj, e3⟩ := (p5 q hq).mp e2
        have : j = 0 := by omega
        subst this
        rw [p1] at e3
        subst e3
        rw [ht.2 p hq] at e
        cases e
    have hw : W (1 - 1) = p := p1
    rw [hw] at s1 s2
    cases e : RL o np p 1 W M np with
    | none =>
      have s1 := s1 e
      show none = (rs1 o np p).bind _
      cases e2 : rs1 o np p with
      | none => rfl
      | some q =>
        obtain ⟨a1, a2, a3⟩ := fi_iff.mp e2
        have a2 : (o p q && (rs2 o np p q).isSome) = true := a2
        rw [Bool.and_eq_true] at a2
        have := s1 q a1 (hM q a1 a2.1) a2.1
        rw [hch] at this
        cases e3 : rs2 o np p q with
        | none => rw [e3] at a2; cases a2.2
        | some r => rw [e3] at this; cases this
    | some t =>
      obtain ⟨q, b1, b2, b3, b4, b5⟩ := s2 t e
      rw [hch] at b4
      have : rs1 o np p = some q := by
        refine fi_iff.mpr ⟨b1, ?_, fun j hj => ?_⟩
        · show (o p q && (rs2 o np p q).isSome) = true
          cases e3 : rs2 o np p q with
          | none => rw [e3] at b4; cases b4
          | some r => rw [b3]; rfl
        · show (o p j && (rs2 o np p j).isSome) = false
          cases e4 : o p j
          · rfl
          · have := b5 j hj (hM j (by omega) e4) e4
            rw [hch] at this
            cases e3 : rs2 o np p j with
            | none => rfl
            | some r => rw [e3] at this; cases this
      show some t = (rs1 o np p).bind _
      rw [this]
      exact b4.symm
  · have hch : ∀ q, RR o np p 3 (wset W 2 q) = if o q p then some (W 1, q) else none := fun q => rfl
    have hM : ∀ q, q < np → o (W 1) q = true → o q p = true → M q = false := by
      intro q hq e e1
      cases e2 : M q
      · rfl
      · obtain ⟨j, hj, e3⟩ := (p5 q hq).mp e2
        have : j = 0 ∨ j = 1 := by omega
        rcases this with rfl | rfl
        · rw [p1] at e3
          subst e3
          rw [ht.2 p hq] at e1
          cases e1
        · subst e3
          rw [ht.2 _ hq] at e
          cases e
    have hw : W (2 - 1) = W 1 := rfl
    rw [hw] at s1 s2
    cases e : RL o np p 2 W M np with
    | none =>
      have s1 := s1 e
      show none = (rs2 o np p (W 1)).map _
      cases e2 : rs2 o np p (W 1) with
      | none => rfl
      | some r =>
        obtain ⟨a1, a2, a3⟩ := rs2_iff.mp e2
        rw [Bool.and_eq_true] at a2
        have := s1 r a1 (hM r a1 a2.1 a2.2) a2.1
        rw [hch, a2.2] at this
        cases this
    | some t =>
      obtain ⟨r, b1, b2, b3, b4, b5⟩ := s2 t e
      rw [hch] at b4
      cases e3 : o r p
      · rw [e3] at b4; cases b4
      · have : rs2 o np p (W 1) = some r := by
          refine rs2_iff.mpr ⟨b1, by rw [b3, e3]; rfl, fun j hj => ?_⟩
          cases e4 : o (W 1) j
          · rfl
          · cases e5 : o j p
            · rfl
            · have := b5 j hj (hM j (by omega) e4 e5) e4
              rw [hch, e5] at this
              cases this
        show some t = (rs2 o np p (W 1)).map _
        rw [this]
        rw [e3] at b4
        exact b4.symm
  · have hch : ∀ q, RR o np p 4 (wset W 3 q) = none := fun q => rfl
    have hr : RR o np p 3 W = none := by show (if o (W 2) p = true then _ else none) = none; rw [h3 rfl]; rfl
    rw [hr]
    cases e : RL o np p 3 W M np with
    | none => rfl
    | some t =>
      obtain ⟨q, b1, b2, b3, b4, b5⟩ := s2 t e
      rw [hch] at b4
      cases b4
  · have hch : ∀ q, RR o np p (k + 1) (wset W k q) = none := fun q => by
      unfold RR
      rw [if_neg (by omega), if_neg (by omega), if_neg (by omega)]
    have hr : RR o np p k W = none := by
      unfold RR
      rw [if_neg (by omega), if_neg (by omega), if_neg (by omega)]
    rw [hr]
    cases e : RL o np p k W M np with
    | none => rfl
    | some t =>
      obtain ⟨q, b1, b2, b3, b4, b5⟩ := s2 t e
      rw [hch] at b4
      cases b4
theorem ct_put {M : Nat → Bool} {q : Nat} (hM : M q = false) : ∀ {n : Nat}, q < n → ct (fun j => M j || decide (j = q)) n = ct M n + 1
  | 0, h => absurd h (Nat.not_lt_zero q)
  | n + 1, h => by
    rw [ct, ct]
    by_cases e : q = n
    · subst e
      rw [ct_cong (g := M) (fun k hk => by rw [decide_eq_false (by omega), Bool.or_false]), hM]
      simp
    · rw [ct_put hM (by omega), decide_eq_false (fun z => e z.symm), Bool.or_false]
      omega
theorem ct_full {M : Nat → Bool} : ∀ {n : Nat}, ct M n = n → ∀ q, q < n → M q = true
  | 0, _, q, h => absurd h (Nat.not_lt_zero q)
  | n + 1, h, q, hq => by
    rw [ct] at h
    have := ct_le M n
    cases e : M n
    · rw [e] at h; simp at h; omega
    · rw [e] at h
      by_cases z : q = n
      · subst z; exact e
      · exact ct_full (by simp at h; exact h) q (by omega)
section TR
variable {A B T : Nat → Nat} {D : Nat → Bool}
def rpost (o : Nat → Nat → Bool) (np p v : Nat) (R : Option (Nat × Nat)) (σ σ' : zS) : Prop := ∃ v', σ'.1 0 35 = nI v' ∧ (v = 3 → v' = 3 ∧ ∀ j, j < 6 → σ'.1 16 j = σ.1 16 j) ∧ (v ≠ 3 → match R with
  | some t => v' = 3 ∧ σ'.1 16 0 = nI p ∧ σ'.1 16 1 = nI t.1 ∧ σ'.1 16 2 = nI t.2
  | none => 4 ≤ v' ∧ v' ≤ 1000000 ∧ (rs1 o np p = none → v' = v))
theorem M_tryRing (hA : vA A) : ∀ (F k p v : Nat) (W : Nat → Nat) (M : Nat → Bool) (σ : zS), 1 ≤ k → k ≤ A 1 → A 1 - k < F → path (outr A D) (A 1) p k W M → mU A B T D σ → (∀ j, j < k → σ.1 15 j = nI (W j)) → σ.1 0 35 = nI v → (v = 3 ∨ (4 ≤ v ∧ v ≤ 1000000)) → zH (f_X11_tryRing F 0 (nI k) (nI (mk M 6)) σ) (fun _ σ' => fr Pr σ σ' ∧ (∀ j, j < k → σ'.1 15 j = nI (W j)) ∧ rpost (outr A D) (A 1) p v (RR (outr A D) (A 1) p k W) σ σ') := by
  have hA1 := hA.1
  have ht := outr_t D hA
  intro F
  induction F with
  | zero => intro k p v W M σ _ _ h; omega
  | succ F ih =>
    intro k p v W M σ hk1 hk6 hF hp h hW hv hvv
    have hp0 := hp
    obtain ⟨p1, p2, p3, p4, p5, p6⟩ := hp
    rw [f_X11_tryRing]
    unfold f_X11_tryRing_b
    refine zH_ck w0 ?_
    rw [hv]
    by_cases hkv : k < v
    · refine zH_t (nI_lt hkv (by omega)) ?_
      -- the loop over the next places
      have loop : (k = 3 → outr A D (W 2) p = false) → zH (f_X11_tryRing_56 (f_X11_tryRing F) 0 (nI k) (nI (mk M 6)) σ) (fun _ σ' => fr Pr σ σ' ∧ (∀ j, j < k → σ'.1 15 j = nI (W j)) ∧ rpost (outr A D) (A 1) p v (RR (outr A D) (A 1) p k W) σ σ') := by
        intro h3
        rw [← RL_RR ht hp0 hk1 h3]
        unfold f_X11_tryRing_56
        refine zH_lt ?_
        suffices key : ∀ q, q ≤ A 1 → ∀ f, A 1 - q < f → ∀ τ, fr Pr σ τ → (∀ j, j < k → τ.1 15 j = nI (W j)) → rpost (outr A D) (A 1) p v (RL (outr A D) (A 1) p k W M q) σ τ → zH (f_X11_tryRing_58 (f_X11_tryRing F) 0 f (nI k) (nI (mk M 6)) (nI q) τ) (fun _ σ' => fr Pr σ σ' ∧ (∀ j, j < k → σ'.1 15 j = nI (W j)) ∧ rpost (outr A D) (A 1) p v (RL (outr A D) (A 1) p k W M (A 1)) σ σ') from
          key 0 (Nat.zero_le _) FU (by unfold FU; omega) σ (fr_r Pr σ) hW ⟨v, hv, fun e => ⟨e, fun _ _ => rfl⟩, fun e => ⟨by omega, by omega, fun _ => rfl⟩⟩
        refine zup (P := fun f q => ∀ τ, fr Pr σ τ → (∀ j, j < k → τ.1 15 j = nI (W j)) → rpost (outr A D) (A 1) p v (RL (outr A D) (A 1) p k W M q) σ τ → zH (f_X11_tryRing_58 (f_X11_tryRing F) 0 f (nI k) (nI (mk M 6)) (nI q) τ) _) (A 1) ?_ ?_
        · intro f τ hFt hWt hpt
          have hU := h.f (hFt.mo Pr_Pq)
          rw [f_X11_tryRing_58, mr15 hU.1, w3, cl1, hU.2.1 1 (by omega)]
          exact zH_ck (by decide) (zH_t (Int32.le_refl _) (zH_ok ⟨hFt, hWt, hpt⟩))
        · intro f q hq ih2 τ hFt hWt hpt
          have hU := h.f (hFt.mo Pr_Pq)
          have nxt : ∀ υ, fr Pr σ υ → (∀ j, j < k → υ.1 15 j = nI (W j)) → rpost (outr A D) (A 1) p v (RL (outr A D) (A 1) p k W M (q + 1)) σ υ → zH (f_X11_tryRing_114 (f_X11_tryRing F) 0 (f_X11_tryRing_58 (f_X11_tryRing F) 0 f) (nI k) (nI (mk M 6)) (nI q) υ) (fun _ σ' => fr Pr σ σ' ∧ (∀ j, j < k → σ'.1 15 j = nI (W j)) ∧ rpost (outr A D) (A 1) p v (RL (outr A D) (A 1) p k W M (A 1)) σ σ') := by
            intro υ a1 a2 a3
            unfold f_X11_tryRing_114
            refine zH_lt ?_
            rw [nI_1]
            exact ih2 υ a1 a2 a3
          have skip : ¬ (M q = false ∧ outr A D (W (k - 1)) q = true) → RL (outr A D) (A 1) p k W M (q + 1) = RL (outr A D) (A 1) p k W M q := by
            intro z
            rw [RL]
            cases RL (outr A D) (A 1) p k W M q with
            | some t => rfl
            | none =>
              show (if (!M q && outr A D (W (k - 1)) q) = true then _ else none) = none
              rw [if_neg (fun y => z (by rw [Bool.and_eq_true, Bool.not_eq_true'] at y; exact y))]
          have hk5 : nI k - 1 = nI (k - 1) := nI_sub (b := 1) hk1
          rw [f_X11_tryRing_58, mr15 hU.1, w3, cl1, hU.2.1 1 (by omega)]
          refine zH_ck (by decide) (zH_f (nI_ge hq (by omega)) (zH_eq (M_hasBitm (by omega) (by omega) τ) ?_))
          cases hM : M q
          · refine zH_t rfl ?_
            have hkl : k < A 1 := by
              rcases Nat.lt_or_ge k (A 1) with y | y
              · exact y
              · have := ct_full (by rw [p6]; omega) q hq
                rw [hM] at this; cases this
            rw [mr33 hU.1, w15, hk5, nI_clamp (by omega), hWt (k - 1) (by omega), nI_clamp (by omega)]
            refine zH_ck (zok_p (by omega) (by decide)) (zH_eq (M_doesOutrank hU hA (p2 _ (by omega)) hq) ?_)
            cases ho : outr A D (W (k - 1)) q
            · exact zH_t rfl (nxt τ hFt hWt (by rw [skip (fun z => by rw [ho] at z; cases z.2)]; exact hpt))
            · rw [mr33 hU.1, w15, m_set (by omega) (by omega), nI_1]
              refine zH_f (by decide) (zH_ck (zok_p (by omega) (by decide)) (zH_lt ?_))
              -- the call one deeper
              obtain ⟨v1, hv1, hq1, hq2⟩ := hpt
              have hFz : fr Pr σ (zpi τ 15 k (nI q)) := hFt.pi _ (Or.inl rfl)
              have hv1' : (zpi τ 15 k (nI q)).1 0 35 = nI v1 := by rw [zpi_ne _ _ (by omega)]; exact hv1
              have hWz : ∀ j, j < k + 1 → (zpi τ 15 k (nI q)).1 15 j = nI (wset W k q j) := by
                intro j hj
                unfold wset
                by_cases e : j = k
                · subst e; rw [zpi_eq, if_pos rfl]
                · rw [zpi_ne _ _ (fun z => e z.2), if_neg e]
                  exact hWt j (by omega)
              have hpq : q ≠ p := fun e => by
                have := (p5 p (by rw [← p1]; exact p2 0 (by omega))).mpr ⟨0, by omega, p1⟩
                rw [← e, hM] at this
                cases this
              have hpath : path (outr A D) (A 1) p (k + 1) (wset W k q) (fun j => M j || decide (j = q)) := by
                refine ⟨?_, ?_, ?_, ?_, ?_, ?_⟩
                · unfold wset; rw [if_neg (by omega)]; exact p1
                · intro j hj
                  unfold wset
                  by_cases e : j = k
                  · rw [if_pos e]; exact hq
                  · rw [if_neg e]; exact p2 j (by omega)
                · intro j hj
                  unfold wset
                  rw [if_neg (show ¬ j = k by omega)]
                  by_cases e : j + 1 = k
                  · rw [if_pos e]
                    have : j = k - 1 := by omega
                    rw [this]; exact ho
                  · rw [if_neg e]; exact p3 j (by omega)
                · intro j h1 hj
                  unfold wset
                  by_cases e : j = k
                  · rw [if_pos e]; exact hpq
                  · rw [if_neg e]; exact p4 j h1 (by omega)
                · intro r hr
                  rw [Bool.or_eq_true, decide_eq_true_eq, p5 r hr]
                  constructor
                  · rintro (⟨j, a1, a2⟩ | e)
                    · exact ⟨j, by omega, by unfold wset; rw [if_neg (by omega)]; exact a2⟩
                    · exact ⟨k, by omega, by unfold wset; rw [if_pos rfl]; exact e.symm⟩
                  · rintro ⟨j, a1, a2⟩
                    unfold wset at a2
                    by_cases e : j = k
                    · rw [if_pos e] at a2; exact Or.inr a2.symm
                    · rw [if_neg e] at a2; exact Or.inl ⟨j, by omega, a2⟩
                · rw [ct_put hM hq, p6]
              have hv1v : v1 = 3 ∨ (4 ≤ v1 ∧ v1 ≤ 1000000) := by
                by_cases e : v = 3
                · exact Or.inl (hq1 e).1
                · have := hq2 e
                  cases e2 : RL (outr A D) (A 1) p k W M q with
                  | some t => rw [e2] at this; exact Or.inl this.1
                  | none => rw [e2] at this; exact Or.inr ⟨this.1, this.2.1⟩
              refine zH_call (ih (k + 1) p v1 (wset W k q) _ (zpi τ 15 k (nI q)) (by omega) (by omega) (by omega) hpath (h.f (hFz.mo Pr_Pq)) hWz hv1' hv1v) ?_
              rintro - υ ⟨hFu, hWu, v2, hv2, hr1, hr2⟩
              refine nxt υ (hFz.tr hFu) (fun j hj => ?_) ?_
              · rw [hWu j (by omega)]
                unfold wset
                rw [if_neg (by omega)]
              · refine ⟨v2, hv2, fun e => ?_, fun e => ?_⟩
                · have a1 := hq1 e
                  have a2 := hr1 a1.1
                  exact ⟨a2.1, fun j hj => by rw [a2.2 j hj, zpi_ne _ _ (by omega)]; exact a1.2 j hj⟩
                · have a1 := hq2 e
                  rw [RL]
                  cases e2 : RL (outr A D) (A 1) p k W M q with
                  | some t =>
                    rw [e2] at a1
                    have a2 := hr1 a1.1
                    show v2 = 3 ∧ _
                    refine ⟨a2.1, ?_, ?_, ?_⟩
                    · rw [a2.2 0 (by omega), zpi_ne _ _ (by omega)]; exact a1.2.1
                    · rw [a2.2 1 (by omega), zpi_ne _ _ (by omega)]; exact a1.2.2.1
                    · rw [a2.2 2 (by omega), zpi_ne _ _ (by omega)]; exact a1.2.2.2
                  | none =>
                    rw [e2] at a1
                    have e3 : v1 ≠ 3 := by have := a1.1; omega
                    have a2 := hr2 e3
                    show (match (if (!M q && outr A D (W (k - 1)) q) = true then RR (outr A D) (A 1) p (k + 1) (wset W k q) else none) with
                      | some t => v2 = 3 ∧ υ.1 16 0 = nI p ∧ υ.1 16 1 = nI t.1 ∧ υ.1 16 2 = nI t.2
                      | none => 4 ≤ v2 ∧ v2 ≤ 1000000 ∧ (rs1 (outr A D) (A 1) p = none → v2 = v))
                    rw [if_pos (by rw [hM, ho]; rfl)]
                    cases e4 : RR (outr A D) (A 1) p (k + 1) (wset W k q) with
                    | some t => rw [e4] at a2; exact a2
                    | none =>
                      rw [e4] at a2
                      exact ⟨a2.1, a2.2.1, fun z => (a2.2.2 z).trans (a1.2.2 z)⟩
          · exact zH_f (by decide) (nxt τ hFt hWt (by rw [skip (fun z => by rw [hM] at z; cases z.1)]; exact hpt))
      by_cases hk2 : k ≤ 2
      · exact zH_t (show nI k ≤ (2 : Int32) from nI_le (b := 2) hk2 (by decide)) (loop (fun e => by omega))
      · refine zH_f (show ¬ nI k ≤ (2 : Int32) from nI_ge (a := 2) (by omega) (by omega)) ?_
        have hk5 : nI k - 1 = nI (k - 1) := nI_sub (b := 1) hk1
        rw [mr33 h.1, w15, hk5, nI_clamp (by omega), hW (k - 1) (by omega), show (0 : Int32).toNatClampNeg = 0 from by decide, hW 0 (by omega), p1]
        refine zH_ck (zok_p (by omega) (by decide)) (zH_ck (by decide) (zH_eq (M_doesOutrank h hA (p2 _ (by omega)) (by rw [← p1]; exact p2 0 (by omega))) ?_))
        cases ho : outr A D (W (k - 1)) p
        · exact zH_t rfl (loop (fun e => by subst e; exact ho))
        · refine zH_f (by decide) (zH_lt ?_)
          have hR2 : (zpi σ 0 35 (nI k)).2 = RM := h.1
          rw [mr33 hR2, mr34 hR2]
          refine zH_call (M_copy (a := 15) (b := 16) (x := 0) (y := 0) (n := 6) w15 w16 (by decide) (by omega) (by omega) (by omega)) ?_
          rintro - τ ⟨hFt, hc⟩
          refine zH_ok ⟨((fr_r Pr σ).pi _ (Or.inr (Or.inr ⟨rfl, rfl⟩))).tr (hFt.mo (fun a k e => Or.inr (Or.inl e.1))), fun j hj => ?_, k, ?_, fun e => by omega, fun e => ?_⟩
          · rw [hFt.2 15 j (by omega), zpi_ne _ _ (by omega)]; exact hW j hj
          · rw [hFt.2 0 35 (by omega), zpi_eq]
          · have cp : ∀ j, j < 6 → τ.1 16 j = σ.1 15 j := fun j hj => by
              have := hc j hj
              rw [Nat.zero_add, zpi_ne _ _ (by omega)] at this
              exact this
            by_cases e3 : k = 3
            · subst e3
              have ho : outr A D (W 2) p = true := ho
              show (match (if outr A D (W 2) p = true then some (W 1, W 2) else none) with
                | some t => 3 = 3 ∧ τ.1 16 0 = nI p ∧ τ.1 16 1 = nI t.1 ∧ τ.1 16 2 = nI t.2
                | none => 4 ≤ 3 ∧ 3 ≤ 1000000 ∧ (rs1 (outr A D) (A 1) p = none → 3 = v))
              rw [if_pos ho]
              exact ⟨rfl, by rw [cp 0 (by omega), hW 0 (by omega), p1], by rw [cp 1 (by omega), hW 1 (by omega)], by rw [cp 2 (by omega), hW 2 (by omega)]⟩
            · have hr : RR (outr A D) (A 1) p k W = none := by
                unfold RR
                rw [if_neg (by omega), if_neg (by omega), if_neg (by omega)]
              rw [hr]
              exact ⟨by omega, by omega, fun z => absurd z (ring3 ht p1 p2 p3 p4 (by omega) ho)⟩
    · refine zH_f (fun z => hkv ((nI_ltI (by omega) (by omega)).mp z)) (zH_ok ⟨fr_r Pr σ, hW, v, hv, fun e => ⟨e, fun _ _ => rfl⟩, fun e => ?_⟩)
      have hr : RR (outr A D) (A 1) p k W = none := by
        unfold RR
        rw [if_neg (by omega), if_neg (by omega), if_neg (by omega)]
      rw [hr]
      exact ⟨by omega, by omega, fun _ => rfl⟩
/-- the search for a ring through p -/
theorem M_seekRing (hA : vA A) {σ : zS} (h : mU A B T D σ) {p : Nat} (hp : p < A 1) : zH (f_X11_seekRing 0 (nI p) σ) (fun x σ' => x = bI (rs1 (outr A D) (A 1) p).isSome ∧ fr Pr σ σ' ∧ ∀ q r, rs1 (outr A D) (A 1) p = some q → rs2 (outr A D) (A 1) p q = some r → σ'.1 0 35 = nI 3 ∧ σ'.1 16 0 = nI p ∧ σ'.1 16 1 = nI q ∧ σ'.1 16 2 = nI r) := by
  have hA1 := hA.1
  unfold f_X11_seekRing
  refine zH_ck w0 (zH_lt ?_)
  rw [zpi_2, mr33 h.1, w15, show (0 : Int32).toNatClampNeg = 0 from by decide, m_bit (n := 6) (by omega) (by omega)]
  refine zH_ck (by decide) (zH_lt ?_)
  have hF0 : fr Pr σ (zpi (zpi σ 0 35 1000000) 15 0 (nI p)) := ((fr_r Pr σ).pi _ (Or.inr (Or.inr ⟨rfl, rfl⟩))).pi _ (Or.inl rfl)
  refine zH_call (M_tryRing (B := B) (T := T) (D := D) hA FUR 1 p 1000000 (fun _ => p) (fun j => decide (j = p)) (zpi (zpi σ 0 35 1000000) 15 0 (nI p)) (Nat.le_refl _) (by omega) (by unfold FUR; omega) ?_ (h.f (hF0.mo Pr_Pq)) ?_ ?_ (by omega)) ?_
  · refine ⟨rfl, fun _ _ => hp, fun j hj => by omega, fun j h1 h2 => by omega, fun q hq => ?_, ?_⟩
    · rw [decide_eq_true_eq]
      exact ⟨fun e => ⟨0, by omega, e.symm⟩, fun ⟨j, _, e⟩ => e.symm⟩
    · have := ct_put (M := fun _ => false) (q := p) rfl hp
      have e0 : ∀ n, ct (fun _ => false) n = 0 := by
        intro n
        induction n with
        | zero => rfl
        | succ n ih => rw [ct, ih]; rfl
      rw [e0] at this
      exact (ct_cong (fun k _ => by rw [Bool.false_or])).trans this
  · intro j hj
    have : j = 0 := by omega
    subst this
    exact zpi_eq _ _ _ _
  · rw [zpi_ne _ _ (by omega), zpi_eq]; rfl
  · rintro - τ ⟨hFt, -, v', hv', -, h2⟩
    have h2 := h2 (by omega)
    have hFt := hF0.tr hFt
    rw [hv']
    cases e : rs1 (outr A D) (A 1) p with
    | none =>
      have hr : RR (outr A D) (A 1) p 1 (fun _ => p) = none := by
        show (rs1 (outr A D) (A 1) p).bind _ = none
        rw [e]; rfl
      rw [hr] at h2
      have := h2.2.2 e
      subst this
      exact zH_t (by decide) (zH_ck (by decide) (zH_ok ⟨rfl, hFt, fun q r z => by cases z⟩))
    | some q =>
      obtain ⟨a1, a2, a3⟩ := fi_iff.mp e
      have a2 : (outr A D p q && (rs2 (outr A D) (A 1) p q).isSome) = true := a2
      rw [Bool.and_eq_true] at a2
      cases e2 : rs2 (outr A D) (A 1) p q with
      | none => rw [e2] at a2; cases a2.2
      | some r =>
        have hr : RR (outr A D) (A 1) p 1 (fun _ => p) = some (q, r) := by
          show (rs1 (outr A D) (A 1) p).bind _ = some (q, r)
          rw [e]
          show (rs2 (outr A D) (A 1) p q).map _ = _
          rw [e2]
          rfl
        rw [hr] at h2
        obtain ⟨b1, b2, b3, b4⟩ := h2
        subst b1
        refine zH_f (by decide) (zH_ck (by decide) (zH_ok ⟨rfl, hFt, fun q' r' z1 z2 => ?_⟩))
        cases z1
        rw [e2] at z2
        cases z2
        exact ⟨hv', b2, b3, b4⟩
end TR
