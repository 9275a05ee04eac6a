/-! a grown world, once it is whole, is the world -/
theorem zfn_fs {X : zX} {σ : zS} {a ci : Nat} (h : ∀ k, k < (zf ci).length → (zf ci)[k]? = some true → σ.2 a k ≠ 3000) : zfn X σ a ci = zfs X σ a ci := by
  unfold zfn zfs
  apply List.ext_getElem?
  intro k
  rw [List.getElem?_mapIdx, List.getElem?_mapIdx]
  cases e : (zf ci)[k]? with
  | none => rfl
  | some b =>
    have hk : k < (zf ci).length := (List.getElem?_eq_some_iff.mp e).1
    cases b with
    | false => rfl
    | true => simp [zval, h k hk e]
theorem zEn_E {X : zX} {σ : zS} {a : Nat} {g : Nat × Nat} (hg : g.1 ≠ 103) (h : ∀ k, k < (zf g.1).length → (zf g.1)[k]? = some true → σ.2 a k ≠ 3000) : zEn X σ a g = zE X σ a g := by
  unfold zEn zE
  by_cases z : g.1 < 100
  · rw [if_pos z, if_pos z, zfn_fs h]
  · rw [if_neg z, if_neg z, if_neg hg, if_neg hg]
theorem len10 : i_X10.1.length = 88 := by decide +kernel
theorem len11 : i_X11.1.length = 18 := by decide +kernel
theorem kin10 : ∀ a, a < 88 → zgd i_X10 a = WC.2 a := by decide +kernel
theorem kin11 : ∀ a, a < 18 → zgd i_X11 a = WM.2 a := by decide +kernel
theorem ful10 : ∀ a, a < 88 → ∀ k, k < (zf (WC.2 a).1).length → (zf (WC.2 a).1)[k]? = some true → i_X10.2.2 a k ≠ 3000 := by decide +kernel
theorem ful11 : ∀ a, a < 18 → ∀ k, k < (zf (WM.2 a).1).length → (zf (WM.2 a).1)[k]? = some true → i_X11.2.2 a k ≠ 3000 := by decide +kernel
