/-! a grown world, once it is whole, is the world -/
theorem zfn_fs {X : zX} {σ : zS} {a ci : Nat} (h : ∀ k, k < (zf ci).length → (zf ci)[k]? = some true → σ.2 a k ≠ 3000) : zfn X σ a ci = zfs X σ a ci := by
  unfold zfn zfs
  apply List.ext_getElem?
  intro k
  rw [List.getElem?_mapIdx, List.getElem?_mapIdx]
  cases e : (zf ci)[k]? with
  | none => rfl
  | some b =>
    have hk : k < (zf ci).length := (List.getElem?_eq_some_iff.mp e).1
    cases b with
    | false => rfl
    | true => simp [zval, h k hk e]
theorem zEn_E {X : zX} {σ : zS} {a : Nat} {g : Nat × Nat} (hg : g.1 ≠ 103) (h : ∀ k, k < (zf g.1).length → (zf g.1)[k]? = some true → σ.2 a k ≠ 3000) : zEn X σ a g = zE X σ a g := by
  unfold zEn zE
  by_cases z : g.1 < 100
  · rw [if_pos z, if_pos z, zfn_fs h]
  · rw [if_neg z, if_neg z, if_neg hg, if_neg hg]
theorem len10 : i_X10.1.length = 88 := by decide +kernel
theorem len11 : i_X11.1.length = 18 := by decide +kernel
theorem kin10 : ∀ a, a < 88 → zgd i_X10 a = WC.2 a := by decide +kernel
theorem kin11 : ∀ a, a < 18 → zgd i_X11 a = WM.2 a := by decide +kernel
theorem ful10 : ∀ a, a < 88 → ∀ k, k < (zf (WC.2 a).1).length → (zf (WC.2 a).1)[k]? = some true → i_X10.2.2 a k ≠ 3000 := by decide +kernel
theorem ful11 : ∀ a, a < 18 → ∀ k, k < (zf (WM.2 a).1).length → (zf (WM.2 a).1)[k]? = some true → i_X11.2.2 a k ≠ 3000 := by decide +kernel
theorem arrV_cong {cA : ClassId} {n : Nat} {f f' : Nat → Value} (h : ∀ j, j < n → f j = f' j) : arrV cA n f = arrV cA n f' := by
  unfold arrV
  congr 2
  funext j
  exact h j.val j.isLt
theorem n103 : ∀ a, a < 88 → a ≠ 38 → (WC.2 a).1 ≠ 103 := by decide +kernel
theorem m103 : ∀ a, a < 18 → (WM.2 a).1 ≠ 103 := by decide +kernel
theorem f38 : ∀ j, j < 3 → i_X10.2.2 38 j ≠ 3000 := by decide +kernel
theorem zP_11 {X : zX} {H : Heap} (h : va_P X.2.1 vwCl (zwn X i_X11) H) : va_P X.2.1 vwCl (zw X WM i_X11.2) H := by
  intro k q hk
  have hk18 : k < 18 := by
    have := (List.getElem?_eq_some_iff.mp hk).1
    unfold zw at this
    rw [List.length_map, List.length_range] at this
    exact this
  have hn := h k _ (zwn_get (by rw [len11]; exact hk18))
  rw [kin11 k hk18, zEn_E (m103 k hk18) (ful11 k hk18)] at hn
  rw [zw_get (show k < WM.1 from hk18)] at hk
  cases hk
  exact hn
theorem zP_of {X : zX} {H : Heap} {S : zN} {w : zW} (hlen : S.1.length = w.1) (hkin : ∀ a, a < w.1 → zgd S a = w.2 a) (hful : ∀ a, a < w.1 → ∀ k, k < (zf (w.2 a).1).length → (zf (w.2 a).1)[k]? = some true → S.2.2 a k ≠ 3000) (h103 : ∀ a, a < w.1 → (w.2 a).1 = 103 → ∀ j, j < (w.2 a).2 → S.2.2 a j ≠ 3000) (h : va_P X.2.1 vwCl (zwn X S) H) : va_P X.2.1 vwCl (zw X w S.2) H := by
  intro k q hk
  have hk88 : k < w.1 := by
    have := (List.getElem?_eq_some_iff.mp hk).1
    unfold zw at this
    rw [List.length_map, List.length_range] at this
    exact this
  have hn := h k _ (zwn_get (by rw [hlen]; exact hk88))
  rw [hkin k hk88] at hn
  rw [zw_get hk88] at hk
  cases hk
  by_cases z : (w.2 k).1 = 103
  · have hj := h103 k hk88 z
    obtain ⟨g1, g2⟩ : ∃ g, w.2 k = g := ⟨_, rfl⟩
    rw [g2] at hn hj z ⊢
    obtain ⟨n1, n2⟩ := g1
    have z : n1 = 103 := z
    subst z
    have hn : H[za X k]? = some (arrV (X.2.2.2.1 3) n2 (fun j => va_rf (if S.2.2 k j = 3000 then none else some (za X (S.2.2 k j))))) := hn
    show H[za X k]? = some (arrV (X.2.2.2.1 3) n2 (fun j => va_rf (some (za X (S.2.2 k j)))))
    rw [hn, arrV_cong (fun j hj' => by rw [if_neg (hj j hj')])]
  · rw [zEn_E z (hful k hk88)] at hn
    exact hn
theorem f103 : ∀ a, a < 88 → (WC.2 a).1 = 103 → ∀ j, j < (WC.2 a).2 → i_X10.2.2 a j ≠ 3000 := by decide +kernel
theorem zP_10 {X : zX} {H : Heap} (h : va_P X.2.1 vwCl (zwn X i_X10) H) : va_P X.2.1 vwCl (zw X WC i_X10.2) H := zP_of len10 kin10 ful10 f103 h
