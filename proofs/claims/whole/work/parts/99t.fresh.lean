/-! the two objects, fresh -/
theorem IC0 (a k : Nat) : i_X10.2.1 a k = if a = 0 ∧ k = 12 then -1 else 0 := rfl
theorem IM0 (a k : Nat) : i_X11.2.1 a k = if a = 0 ∧ k = 10 then -1 else 0 := rfl
theorem IC0z {a k : Nat} (h : ¬ (a = 0 ∧ k = 12)) : i_X10.2.1 a k = nI 0 := (IC0 a k).trans (if_neg h)
theorem IM0z {a k : Nat} (h : ¬ (a = 0 ∧ k = 10)) : i_X11.2.1 a k = nI 0 := (IM0 a k).trans (if_neg h)
theorem vA_0 : vA Fz := by
  have z : ∀ k, Fz k = 0 := fun _ => rfl
  refine ⟨by simp only [z]; omega, ?_, ?_, ?_, ?_, ?_, ?_, ?_, ?_, ?_⟩
  · intro p hp; rw [z] at hp; omega
  · intro p q hp; rw [z] at hp; omega
  · intro p hp; rw [z] at hp; omega
  · intro p q hp; rw [z] at hp; omega
  · intro p hp; rw [z] at hp; omega
  · intro p hp; rw [z] at hp; omega
  · intro p hp; rw [z] at hp; omega
  · intro p hp; rw [z] at hp; omega
  · intro _; exact ⟨rfl, rfl, rfl, rfl, rfl, rfl, rfl⟩
theorem Rel_0 : Rel i_X10.2 i_X11.2 := by
  have hP := (VV_0 (fun _ => 0) 0).2.1
  have n0 : ∀ p, ¬ p < Fz 1 := fun p hp => absurd hp (Nat.not_lt_zero p)
  refine ⟨false, Fz, Fz, Fz, vA_0, hP, hP, ⟨RC_0, ⟨⟨IC0z (by decide), IC0z (by decide), IC0z (by decide), IC0z (by decide), IC0z (by decide), IC0z (by decide), IC0z (by decide), IC0z (by decide)⟩, fun p hp => absurd hp (Nat.not_lt_zero p), fun p hp => absurd hp (Nat.not_lt_zero p), fun p hp => absurd hp (Nat.not_lt_zero p), fun p hp => absurd hp (Nat.not_lt_zero p), fun p hp => absurd hp (Nat.not_lt_zero p), fun p hp => absurd hp (Nat.not_lt_zero p)⟩, ⟨IC0z (by omega), ?_, IC0z (by omega), fun p hp => absurd hp (Nat.not_lt_zero p)⟩, ⟨IC0z (by decide), ?_, IC0z (by decide), fun p hp => absurd hp (Nat.not_lt_zero p)⟩, ?_⟩, ⟨rfl, fun k _ => IM0z (by omega), fun k _ => IM0z (by omega), fun k _ => IM0z (by omega), ?_, ?_⟩, ⟨?_, ⟨0, fun _ => 0, by omega, IC0z (by omega), IM0z (by omega), fun k hk => absurd hk (Nat.not_lt_zero k)⟩, 0, 0, ⟨by omega, IC0z (by omega), IM0z (by omega), fun _ => Fz, fun q hq => absurd hq (Nat.not_lt_zero q)⟩, ⟨by omega, IC0z (by omega), IM0z (by omega), fun _ => Fz, rfl, fun q hq => absurd hq (Nat.not_lt_zero q)⟩, fun _ => ⟨rfl, rfl⟩⟩, Or.inl (IC0z (by omega)), ?_, fun z => ?_⟩
  · rw [mk_Fz]; exact IC0z (by omega)
  · rw [mk_Fz]; exact IC0z (by decide)
  · exact ⟨IC0z (by decide), fun p hp => absurd hp (Nat.not_lt_zero p)⟩
  · rw [mkD0]; exact IM0z (by omega)
  · rw [IM0z (by omega)]; rfl
  · rw [IC0z (by omega), IM0z (by omega)]
  · rw [IC0z (by omega), IM0z (by omega)]
  · rw [IC0z (by omega)] at z
    exact absurd z (by decide)
