/-! any line, on both sides -/
section LG2
variable {b : Bool} {tp F R : Nat → Nat} {n a e kd : Nat} {N : nT} {σc σm : zS}
theorem OC_w {e0 : Nat} {rc : Option (Int32 × zS)} {rm : Option (Unit × zS)} (h : OC b tp n e0 σc σm rc rm) : OC b tp n e0 σc σm (zbd rc (fun r s => zck (zb r) (some (r, s)))) (zbd rm (fun _ s => some ((), s))) := by
  rcases h with ⟨F, R, N, a, e, kd, τc, τm, h1, h2, h3⟩ | ⟨f, y, τc, τm, f1, f2, h1, h2, h3⟩
  · refine Or.inl ⟨F, R, N, a, e, kd, τc, τm, ?_, ?_, h3⟩
    · rw [h1, zbd_s]; rfl
    · rw [h2, zbd_s]
  · refine Or.inr ⟨f, y, τc, τm, f1, f2, ?_, ?_, h3⟩
    · rw [h1, zbd_s]; rfl
    · rw [h2, zbd_s]
theorem cl9 : ((9 : Int32).toNatClampNeg) = 9 := rfl
theorem cl0 : ((0 : Int32).toNatClampNeg) = 0 := rfl
theorem M_beg0 (S : SS b tp n F R N a e kd σc σm) {j : Nat} (hj : j < 18) (hw : wI tp a e kd j = false) (x : Int32) : f_X11_begins 0 (1000 + j) x σm = some (0, σm) := by
  unfold f_X11_begins
  rw [zck_t w0, M_isWord S.2.1 S.q.2.2.1 S.q.2.2.2.1 S.1.1 hj, zbd_s, hw, zbr_t (c := bI false = 0) rfl]; rfl
theorem M_beg1 (S : SS b tp n F R N a e kd σc σm) {j : Nat} (hj : j < 18) (hw : wI tp a e kd j = true) (h9 : F 9 = 1) {τ : zS} (hp : f_X11_pass 0 σm = some ((), τ)) : f_X11_begins 0 (1000 + j) 1 σm = some (1, τ) := by
  unfold f_X11_begins f_X11_begins_23 f_X11_begins_43
  rw [zck_t w0, M_isWord S.2.1 S.q.2.2.1 S.q.2.2.2.1 S.1.1 hj, zbd_s, hw, zbr_f (c := bI true = 0) (by decide), zbr_f z10, mr16 S.q.2.2.1, w4, zck_t (by decide), cl9, S.r4 9 (by omega), h9, zbr_f (show ¬ nI 1 = (0 : Int32) by decide), hp, zbd_s]; rfl
theorem M_beg5 (S : SS b tp n F R N a e kd σc σm) {j : Nat} (hj : j < 18) (hw : wI tp a e kd j = true) (h9 : F 9 = 1) : f_X11_begins 0 (1000 + j) 0 σm = some (1, wr σm (nI 5) (nI a)) := by
  unfold f_X11_begins
  rw [zck_t w0, M_isWord S.2.1 S.q.2.2.1 S.q.2.2.2.1 S.1.1 hj, zbd_s, hw, zbr_f (c := bI true = 0) (by decide), zbr_t (c := (0 : Int32) = 0) rfl, S.2.1.2.2.1.1, M_wrong S.q.2.2.2.1, zbd_s]
  unfold f_X11_begins_23 f_X11_begins_43
  rw [wr_2, mr16 S.q.2.2.1, w4, zck_t (by decide), cl9, wr_4, S.r4 9 (by omega), h9, zbr_f (show ¬ nI 1 = (0 : Int32) by decide), Mf_pass (wr_13 _ _ _), zbd_s]; rfl
theorem M_beg6 (S : SS b tp n F R N a e kd σc σm) {j : Nat} (hj : j < 18) (hw : wI tp a e kd j = true) (h9 : F 9 = 0) : f_X11_begins 0 (1000 + j) 1 σm = some (1, wr σm (nI 6) (nI a)) := by
  unfold f_X11_begins f_X11_begins_23 f_X11_begins_43
  rw [zck_t w0, M_isWord S.2.1 S.q.2.2.1 S.q.2.2.2.1 S.1.1 hj, zbd_s, hw, zbr_f (c := bI true = 0) (by decide), zbr_f z10, mr16 S.q.2.2.1, w4, zck_t (by decide), cl9, S.r4 9 (by omega), h9, zbr_t (show nI 0 = (0 : Int32) from rfl), S.2.1.2.2.1.1, M_wrong S.q.2.2.2.1, zbd_s, Mf_pass (wr_13 _ _ _), zbd_s]; rfl
def cn (c m : Nat) : Int32 := if m ≤ c then 0 else 1
theorem cn_1 {c m : Nat} (h : c < m) : cn c m = 1 := if_neg (by omega)
theorem cn_0 {c m : Nat} (h : m ≤ c) : cn c m = 0 := if_pos h
theorem cn_z {ρ : Type} {c m : Nat} (hc : c < 2 ^ 31) (hm : m < 2 ^ 31) (g : Int32 → Option (ρ × zS)) : zbr (nI m ≤ nI c) (g 0) (g 1) = g (cn c m) := by
  by_cases z : m ≤ c
  · rw [zbr_t (nI_le z hc), cn_0 z]
  · rw [zbr_f (nI_ge (by omega) hm), cn_1 (by omega)]
theorem Mf_placeLine {τ : zS} (h : τ.1 0 13 = 1) : f_X11_placeLine 0 τ = some ((), τ) := by unfold f_X11_placeLine; rw [zck_t w0, zbr_f (by rw [h]; decide)]
theorem Mf_overLine {τ : zS} (h : τ.1 0 13 = 1) : f_X11_overLine 0 τ = some ((), τ) := by unfold f_X11_overLine; rw [zck_t w0, zbr_f (by rw [h]; decide)]
theorem Mf_handLine {τ : zS} (h : τ.1 0 13 = 1) : f_X11_handLine 0 τ = some ((), τ) := by unfold f_X11_handLine; rw [zck_t w0, zbr_f (by rw [h]; decide)]
theorem Mf_matterLine {τ : zS} (h : τ.1 0 13 = 1) : f_X11_matterLine 0 τ = some ((), τ) := by unfold f_X11_matterLine; rw [zck_t w0, zbr_f (by rw [h]; decide)]
theorem Mf_wroteLine {τ : zS} (h : τ.1 0 13 = 1) : f_X11_wroteLine 0 τ = some ((), τ) := by unfold f_X11_wroteLine; rw [zck_t w0, zbr_f (by rw [h]; decide)]
theorem Mf_hiddenLine {τ : zS} (h : τ.1 0 13 = 1) : f_X11_hiddenLine 0 τ = some ((), τ) := by unfold f_X11_hiddenLine; rw [zck_t w0, zbr_f (by rw [h]; decide)]
theorem Mf_doneLine {τ : zS} (h : τ.1 0 13 = 1) : f_X11_doneLine 0 τ = some ((), τ) := by unfold f_X11_doneLine; rw [zck_t w0, zbr_f (by rw [h]; decide)]
theorem Mf_bidLine {τ : zS} (h : τ.1 0 13 = 1) : f_X11_bidLine 0 τ = some ((), τ) := by unfold f_X11_bidLine; rw [zck_t w0, zbr_f (by rw [h]; decide)]
theorem M_e1 (S : SS b tp n F R N a e kd σc σm) (hb : F 1 ≤ 6 ∧ F 2 ≤ 6 ∧ F 3 ≤ 4 ∧ F 4 ≤ 4 ∧ R 48 ≤ 8 ∧ F 6 ≤ 3 ∧ F 8 ≤ 6) (hw : wI tp a e kd 0 = false) : f_X11_readLine 0 σm = f_X11_readLine_35 0 0 (1000 + 1) (cn (F 1) 6) σm := by
  unfold f_X11_readLine
  rw [zck_t w0, M_isWord S.2.1 S.q.2.2.1 S.q.2.2.2.1 S.1.1 (j := 0) (by decide), zbd_s, hw, zbr_t (c := bI false = 0) rfl, mr16 S.q.2.2.1, w4, zck_t (by decide), cl1, S.r4 1 (by omega)]
  exact cn_z (c := F 1) (m := 6) (by omega) (by decide) (fun x => f_X11_readLine_35 0 0 (1000 + 1) x σm)
theorem M_e2 (S : SS b tp n F R N a e kd σc σm) (hb : F 1 ≤ 6 ∧ F 2 ≤ 6 ∧ F 3 ≤ 4 ∧ F 4 ≤ 4 ∧ R 48 ≤ 8 ∧ F 6 ≤ 3 ∧ F 8 ≤ 6) (hw : wI tp a e kd 1 = false) (x : Int32) : f_X11_readLine_35 0 0 (1000 + 1) x σm = f_X11_readLine_67 0 0 (1000 + 2) (cn (F 2) 6) σm := by
  unfold f_X11_readLine_35
  rw [zck_t w0, M_beg0 S (j := 1) (by decide) hw, zbd_s, zbr_t (c := (0 : Int32) = 0) rfl, mr16 S.q.2.2.1, w4, zck_t (by decide), cl2, S.r4 2 (by omega)]
  exact cn_z (c := F 2) (m := 6) (by omega) (by decide) (fun x => f_X11_readLine_67 0 0 (1000 + 2) x σm)
theorem M_e3 (S : SS b tp n F R N a e kd σc σm) (hb : F 1 ≤ 6 ∧ F 2 ≤ 6 ∧ F 3 ≤ 4 ∧ F 4 ≤ 4 ∧ R 48 ≤ 8 ∧ F 6 ≤ 3 ∧ F 8 ≤ 6) (hw : wI tp a e kd 2 = false) (x : Int32) : f_X11_readLine_67 0 0 (1000 + 2) x σm = f_X11_readLine_98 0 0 (1000 + 3) (cn (F 3) 4) σm := by
  unfold f_X11_readLine_67
  rw [zck_t w0, M_beg0 S (j := 2) (by decide) hw, zbd_s, zbr_t (c := (0 : Int32) = 0) rfl, mr16 S.q.2.2.1, w4, zck_t (by decide), cl3, S.r4 3 (by omega)]
  exact cn_z (c := F 3) (m := 4) (by omega) (by decide) (fun x => f_X11_readLine_98 0 0 (1000 + 3) x σm)
theorem M_e4 (S : SS b tp n F R N a e kd σc σm) (hb : F 1 ≤ 6 ∧ F 2 ≤ 6 ∧ F 3 ≤ 4 ∧ F 4 ≤ 4 ∧ R 48 ≤ 8 ∧ F 6 ≤ 3 ∧ F 8 ≤ 6) (hw : wI tp a e kd 3 = false) (x : Int32) : f_X11_readLine_98 0 0 (1000 + 3) x σm = f_X11_readLine_129 0 0 (1000 + 4) (cn (F 4) 4) σm := by
  unfold f_X11_readLine_98
  rw [zck_t w0, M_beg0 S (j := 3) (by decide) hw, zbd_s, zbr_t (c := (0 : Int32) = 0) rfl, mr16 S.q.2.2.1, w4, zck_t (by decide), cl4, S.r4 4 (by omega)]
  exact cn_z (c := F 4) (m := 4) (by omega) (by decide) (fun x => f_X11_readLine_129 0 0 (1000 + 4) x σm)
theorem M_e5 (S : SS b tp n F R N a e kd σc σm) (hb : F 1 ≤ 6 ∧ F 2 ≤ 6 ∧ F 3 ≤ 4 ∧ F 4 ≤ 4 ∧ R 48 ≤ 8 ∧ F 6 ≤ 3 ∧ F 8 ≤ 6) (hw : wI tp a e kd 4 = false) (x : Int32) : f_X11_readLine_129 0 0 (1000 + 4) x σm = f_X11_readLine_162 0 0 (1000 + 5) (cn (R 48) 8) σm := by
  unfold f_X11_readLine_129
  rw [zck_t w0, M_beg0 S (j := 4) (by decide) hw, zbd_s, zbr_t (c := (0 : Int32) = 0) rfl, mr18 S.q.2.2.1, w6, zck_t (by decide), cl48, S.r6 48 (by omega)]
  exact cn_z (c := R 48) (m := 8) (by omega) (by decide) (fun x => f_X11_readLine_162 0 0 (1000 + 5) x σm)
theorem M_e6 (S : SS b tp n F R N a e kd σc σm) (hb : F 1 ≤ 6 ∧ F 2 ≤ 6 ∧ F 3 ≤ 4 ∧ F 4 ≤ 4 ∧ R 48 ≤ 8 ∧ F 6 ≤ 3 ∧ F 8 ≤ 6) (hw : wI tp a e kd 5 = false) (x : Int32) : f_X11_readLine_162 0 0 (1000 + 5) x σm = f_X11_readLine_194 0 0 (1000 + 6) (cn (F 6) 3) σm := by
  unfold f_X11_readLine_162
  rw [zck_t w0, M_beg0 S (j := 5) (by decide) hw, zbd_s, zbr_t (c := (0 : Int32) = 0) rfl, mr16 S.q.2.2.1, w4, zck_t (by decide), cl6, S.r4 6 (by omega)]
  exact cn_z (c := F 6) (m := 3) (by omega) (by decide) (fun x => f_X11_readLine_194 0 0 (1000 + 6) x σm)
theorem M_e7 (S : SS b tp n F R N a e kd σc σm) (hw : wI tp a e kd 6 = false) (x : Int32) {τ : zS} (hd : f_X11_begins 0 (1000 + 7) 1 σm = some (1, τ)) : f_X11_readLine_194 0 0 (1000 + 6) x σm = zbd (f_X11_doneLine 0 τ) (fun _ σ => some ((), σ)) := by
  unfold f_X11_readLine_194
  rw [zck_t w0, M_beg0 S (j := 6) (by decide) hw, zbd_s, zbr_t (c := (0 : Int32) = 0) rfl, hd, zbd_s, zbr_f z10]
theorem M_e8 (S : SS b tp n F R N a e kd σc σm) (hb : F 1 ≤ 6 ∧ F 2 ≤ 6 ∧ F 3 ≤ 4 ∧ F 4 ≤ 4 ∧ R 48 ≤ 8 ∧ F 6 ≤ 3 ∧ F 8 ≤ 6) (hw : wI tp a e kd 6 = false) (hw7 : wI tp a e kd 7 = false) (x : Int32) : f_X11_readLine_194 0 0 (1000 + 6) x σm = f_X11_readLine_244 0 0 (1000 + 8) (cn (F 8) 6) σm := by
  unfold f_X11_readLine_194
  rw [zck_t w0, M_beg0 S (j := 6) (by decide) hw, zbd_s, zbr_t (c := (0 : Int32) = 0) rfl, M_beg0 S (j := 7) (by decide) hw7, zbd_s, zbr_t (c := (0 : Int32) = 0) rfl, mr16 S.q.2.2.1, w4, zck_t (by decide), cl8, S.r4 8 (by omega)]
  exact cn_z (c := F 8) (m := 6) (by omega) (by decide) (fun x => f_X11_readLine_244 0 0 (1000 + 8) x σm)
theorem M_e9 (S : SS b tp n F R N a e kd σc σm) (hw : wI tp a e kd 8 = false) (x : Int32) : f_X11_readLine_244 0 0 (1000 + 8) x σm = some ((), wr σm (nI 1) (nI a)) := by
  unfold f_X11_readLine_244
  rw [zck_t w0, M_beg0 S (j := 8) (by decide) hw, zbd_s, zbr_t (c := (0 : Int32) = 0) rfl, S.2.1.2.2.1.1, M_wrong S.q.2.2.2.1, zbd_s]; rfl
theorem M_t2 {x : Int32} {τ : zS} (hd : f_X11_begins 0 (1000 + 1) x σm = some (1, τ)) : f_X11_readLine_35 0 0 (1000 + 1) x σm = zbd (f_X11_placeLine 0 τ) (fun _ σ => some ((), σ)) := by
  unfold f_X11_readLine_35
  rw [zck_t w0, hd, zbd_s, zbr_f z10]
theorem M_t3 {x : Int32} {τ : zS} (hd : f_X11_begins 0 (1000 + 2) x σm = some (1, τ)) : f_X11_readLine_67 0 0 (1000 + 2) x σm = zbd (f_X11_overLine 0 τ) (fun _ σ => some ((), σ)) := by
  unfold f_X11_readLine_67
  rw [zck_t w0, hd, zbd_s, zbr_f z10]
theorem M_t4 {x : Int32} {τ : zS} (hd : f_X11_begins 0 (1000 + 3) x σm = some (1, τ)) : f_X11_readLine_98 0 0 (1000 + 3) x σm = zbd (f_X11_handLine 0 τ) (fun _ σ => some ((), σ)) := by
  unfold f_X11_readLine_98
  rw [zck_t w0, hd, zbd_s, zbr_f z10]
theorem M_t5 {x : Int32} {τ : zS} (hd : f_X11_begins 0 (1000 + 4) x σm = some (1, τ)) : f_X11_readLine_129 0 0 (1000 + 4) x σm = zbd (f_X11_matterLine 0 τ) (fun _ σ => some ((), σ)) := by
  unfold f_X11_readLine_129
  rw [zck_t w0, hd, zbd_s, zbr_f z10]
theorem M_t6 {x : Int32} {τ : zS} (hd : f_X11_begins 0 (1000 + 5) x σm = some (1, τ)) : f_X11_readLine_162 0 0 (1000 + 5) x σm = zbd (f_X11_wroteLine 0 τ) (fun _ σ => some ((), σ)) := by
  unfold f_X11_readLine_162
  rw [zck_t w0, hd, zbd_s, zbr_f z10]
theorem M_t7 {x : Int32} {τ : zS} (hd : f_X11_begins 0 (1000 + 6) x σm = some (1, τ)) : f_X11_readLine_194 0 0 (1000 + 6) x σm = zbd (f_X11_hiddenLine 0 τ) (fun _ σ => some ((), σ)) := by
  unfold f_X11_readLine_194
  rw [zck_t w0, hd, zbd_s, zbr_f z10]
theorem M_t9 {x : Int32} {τ : zS} (hd : f_X11_begins 0 (1000 + 8) x σm = some (1, τ)) : f_X11_readLine_244 0 0 (1000 + 8) x σm = zbd (f_X11_bidLine 0 τ) (fun _ σ => some ((), σ)) := by
  unfold f_X11_readLine_244
  rw [zck_t w0, hd, zbd_s, zbr_f z10]
theorem M_r2 (S : SS b tp n F R N a e kd σc σm) (hb : F 1 ≤ 6 ∧ F 2 ≤ 6 ∧ F 3 ≤ 4 ∧ F 4 ≤ 4 ∧ R 48 ≤ 8 ∧ F 6 ≤ 3 ∧ F 8 ≤ 6) (h0 : wI tp a e kd 0 = false) {τ : zS} (hd : f_X11_begins 0 (1000 + 1) (cn (F 1) 6) σm = some (1, τ)) : f_X11_readLine 0 σm = zbd (f_X11_placeLine 0 τ) (fun _ σ => some ((), σ)) := by
  rw [M_e1 S hb h0, M_t2 hd]
theorem M_r3 (S : SS b tp n F R N a e kd σc σm) (hb : F 1 ≤ 6 ∧ F 2 ≤ 6 ∧ F 3 ≤ 4 ∧ F 4 ≤ 4 ∧ R 48 ≤ 8 ∧ F 6 ≤ 3 ∧ F 8 ≤ 6) (h0 : wI tp a e kd 0 = false) (h1 : wI tp a e kd 1 = false) {τ : zS} (hd : f_X11_begins 0 (1000 + 2) (cn (F 2) 6) σm = some (1, τ)) : f_X11_readLine 0 σm = zbd (f_X11_overLine 0 τ) (fun _ σ => some ((), σ)) := by
  rw [M_e1 S hb h0, M_e2 S hb h1, M_t3 hd]
theorem M_r4 (S : SS b tp n F R N a e kd σc σm) (hb : F 1 ≤ 6 ∧ F 2 ≤ 6 ∧ F 3 ≤ 4 ∧ F 4 ≤ 4 ∧ R 48 ≤ 8 ∧ F 6 ≤ 3 ∧ F 8 ≤ 6) (h0 : wI tp a e kd 0 = false) (h1 : wI tp a e kd 1 = false) (h2 : wI tp a e kd 2 = false) {τ : zS} (hd : f_X11_begins 0 (1000 + 3) (cn (F 3) 4) σm = some (1, τ)) : f_X11_readLine 0 σm = zbd (f_X11_handLine 0 τ) (fun _ σ => some ((), σ)) := by
  rw [M_e1 S hb h0, M_e2 S hb h1, M_e3 S hb h2, M_t4 hd]
theorem M_r5 (S : SS b tp n F R N a e kd σc σm) (hb : F 1 ≤ 6 ∧ F 2 ≤ 6 ∧ F 3 ≤ 4 ∧ F 4 ≤ 4 ∧ R 48 ≤ 8 ∧ F 6 ≤ 3 ∧ F 8 ≤ 6) (h0 : wI tp a e kd 0 = false) (h1 : wI tp a e kd 1 = false) (h2 : wI tp a e kd 2 = false) (h3 : wI tp a e kd 3 = false) {τ : zS} (hd : f_X11_begins 0 (1000 + 4) (cn (F 4) 4) σm = some (1, τ)) : f_X11_readLine 0 σm = zbd (f_X11_matterLine 0 τ) (fun _ σ => some ((), σ)) := by
  rw [M_e1 S hb h0, M_e2 S hb h1, M_e3 S hb h2, M_e4 S hb h3, M_t5 hd]
theorem M_r6 (S : SS b tp n F R N a e kd σc σm) (hb : F 1 ≤ 6 ∧ F 2 ≤ 6 ∧ F 3 ≤ 4 ∧ F 4 ≤ 4 ∧ R 48 ≤ 8 ∧ F 6 ≤ 3 ∧ F 8 ≤ 6) (h0 : wI tp a e kd 0 = false) (h1 : wI tp a e kd 1 = false) (h2 : wI tp a e kd 2 = false) (h3 : wI tp a e kd 3 = false) (h4 : wI tp a e kd 4 = false) {τ : zS} (hd : f_X11_begins 0 (1000 + 5) (cn (R 48) 8) σm = some (1, τ)) : f_X11_readLine 0 σm = zbd (f_X11_wroteLine 0 τ) (fun _ σ => some ((), σ)) := by
  rw [M_e1 S hb h0, M_e2 S hb h1, M_e3 S hb h2, M_e4 S hb h3, M_e5 S hb h4, M_t6 hd]
theorem M_r7 (S : SS b tp n F R N a e kd σc σm) (hb : F 1 ≤ 6 ∧ F 2 ≤ 6 ∧ F 3 ≤ 4 ∧ F 4 ≤ 4 ∧ R 48 ≤ 8 ∧ F 6 ≤ 3 ∧ F 8 ≤ 6) (h0 : wI tp a e kd 0 = false) (h1 : wI tp a e kd 1 = false) (h2 : wI tp a e kd 2 = false) (h3 : wI tp a e kd 3 = false) (h4 : wI tp a e kd 4 = false) (h5 : wI tp a e kd 5 = false) {τ : zS} (hd : f_X11_begins 0 (1000 + 6) (cn (F 6) 3) σm = some (1, τ)) : f_X11_readLine 0 σm = zbd (f_X11_hiddenLine 0 τ) (fun _ σ => some ((), σ)) := by
  rw [M_e1 S hb h0, M_e2 S hb h1, M_e3 S hb h2, M_e4 S hb h3, M_e5 S hb h4, M_e6 S hb h5, M_t7 hd]
theorem M_r8 (S : SS b tp n F R N a e kd σc σm) (hb : F 1 ≤ 6 ∧ F 2 ≤ 6 ∧ F 3 ≤ 4 ∧ F 4 ≤ 4 ∧ R 48 ≤ 8 ∧ F 6 ≤ 3 ∧ F 8 ≤ 6) (h0 : wI tp a e kd 0 = false) (h1 : wI tp a e kd 1 = false) (h2 : wI tp a e kd 2 = false) (h3 : wI tp a e kd 3 = false) (h4 : wI tp a e kd 4 = false) (h5 : wI tp a e kd 5 = false) (h6 : wI tp a e kd 6 = false) {τ : zS} (hd : f_X11_begins 0 (1000 + 7) 1 σm = some (1, τ)) : f_X11_readLine 0 σm = zbd (f_X11_doneLine 0 τ) (fun _ σ => some ((), σ)) := by
  rw [M_e1 S hb h0, M_e2 S hb h1, M_e3 S hb h2, M_e4 S hb h3, M_e5 S hb h4, M_e6 S hb h5, M_e7 S h6 _ hd]
theorem M_r9 (S : SS b tp n F R N a e kd σc σm) (hb : F 1 ≤ 6 ∧ F 2 ≤ 6 ∧ F 3 ≤ 4 ∧ F 4 ≤ 4 ∧ R 48 ≤ 8 ∧ F 6 ≤ 3 ∧ F 8 ≤ 6) (h0 : wI tp a e kd 0 = false) (h1 : wI tp a e kd 1 = false) (h2 : wI tp a e kd 2 = false) (h3 : wI tp a e kd 3 = false) (h4 : wI tp a e kd 4 = false) (h5 : wI tp a e kd 5 = false) (h6 : wI tp a e kd 6 = false) (h7 : wI tp a e kd 7 = false) {τ : zS} (hd : f_X11_begins 0 (1000 + 8) (cn (F 8) 6) σm = some (1, τ)) : f_X11_readLine 0 σm = zbd (f_X11_bidLine 0 τ) (fun _ σ => some ((), σ)) := by
  rw [M_e1 S hb h0, M_e2 S hb h1, M_e3 S hb h2, M_e4 S hb h3, M_e5 S hb h4, M_e6 S hb h5, M_e8 S hb h6 h7, M_t9 hd]
theorem M_r0 (S : SS b tp n F R N a e kd σc σm) (hb : F 1 ≤ 6 ∧ F 2 ≤ 6 ∧ F 3 ≤ 4 ∧ F 4 ≤ 4 ∧ R 48 ≤ 8 ∧ F 6 ≤ 3 ∧ F 8 ≤ 6) (h0 : wI tp a e kd 0 = false) (h1 : wI tp a e kd 1 = false) (h2 : wI tp a e kd 2 = false) (h3 : wI tp a e kd 3 = false) (h4 : wI tp a e kd 4 = false) (h5 : wI tp a e kd 5 = false) (h6 : wI tp a e kd 6 = false) (h7 : wI tp a e kd 7 = false) (h8 : wI tp a e kd 8 = false) : f_X11_readLine 0 σm = some ((), wr σm (nI 1) (nI a)) := by
  rw [M_e1 S hb h0, M_e2 S hb h1, M_e3 S hb h2, M_e4 S hb h3, M_e5 S hb h4, M_e6 S hb h5, M_e8 S hb h6 h7, M_e9 S h8]
theorem lwx_1  (ht : wI tp a e kd 0 = true) : lwN tp a e kd = 1 := by unfold lwN; rw [ht]; rfl
theorem lwx_2 (h0 : wI tp a e kd 0 = false) (ht : wI tp a e kd 1 = true) : lwN tp a e kd = 2 := by unfold lwN; rw [h0, ht]; rfl
theorem C_r2 (S : SS b tp n F R N a e kd σc σm) (hl : lwN tp a e kd = 2) : f_X8_readLine 1 σc = zbd (f_X8_readPlace 1 σc) (fun r s => zck (zb r) (some (r, s))) := by
  unfold f_X8_readLine
  rw [zck_t k1, C_lineWord S.1 S.2.1 S.2.2.rs.1 S.q.1, zbd_s, hl, zbr_f (show ¬ nI 2 = (1 : Int32) by decide), zbr_t (show nI 2 = (2 : Int32) by decide)]
theorem lwx_3 (h0 : wI tp a e kd 0 = false) (h1 : wI tp a e kd 1 = false) (ht : wI tp a e kd 2 = true) : lwN tp a e kd = 3 := by unfold lwN; rw [h0, h1, ht]; rfl
theorem C_r3 (S : SS b tp n F R N a e kd σc σm) (hl : lwN tp a e kd = 3) : f_X8_readLine 1 σc = zbd (f_X8_readOver 1 σc) (fun r s => zck (zb r) (some (r, s))) := by
  unfold f_X8_readLine
  rw [zck_t k1, C_lineWord S.1 S.2.1 S.2.2.rs.1 S.q.1, zbd_s, hl, zbr_f (show ¬ nI 3 = (1 : Int32) by decide), zbr_f (show ¬ nI 3 = (2 : Int32) by decide), zbr_t (show nI 3 = (3 : Int32) by decide)]
theorem lwx_4 (h0 : wI tp a e kd 0 = false) (h1 : wI tp a e kd 1 = false) (h2 : wI tp a e kd 2 = false) (ht : wI tp a e kd 3 = true) : lwN tp a e kd = 4 := by unfold lwN; rw [h0, h1, h2, ht]; rfl
theorem C_r4 (S : SS b tp n F R N a e kd σc σm) (hl : lwN tp a e kd = 4) : f_X8_readLine 1 σc = zbd (f_X8_readHand 1 σc) (fun r s => zck (zb r) (some (r, s))) := by
  unfold f_X8_readLine
  rw [zck_t k1, C_lineWord S.1 S.2.1 S.2.2.rs.1 S.q.1, zbd_s, hl, zbr_f (show ¬ nI 4 = (1 : Int32) by decide), zbr_f (show ¬ nI 4 = (2 : Int32) by decide), zbr_f (show ¬ nI 4 = (3 : Int32) by decide), zbr_t (show nI 4 = (4 : Int32) by decide)]
theorem lwx_5 (h0 : wI tp a e kd 0 = false) (h1 : wI tp a e kd 1 = false) (h2 : wI tp a e kd 2 = false) (h3 : wI tp a e kd 3 = false) (ht : wI tp a e kd 4 = true) : lwN tp a e kd = 5 := by unfold lwN; rw [h0, h1, h2, h3, ht]; rfl
theorem C_r5 (S : SS b tp n F R N a e kd σc σm) (hl : lwN tp a e kd = 5) : f_X8_readLine 1 σc = zbd (f_X8_readMatter 1 σc) (fun r s => zck (zb r) (some (r, s))) := by
  unfold f_X8_readLine
  rw [zck_t k1, C_lineWord S.1 S.2.1 S.2.2.rs.1 S.q.1, zbd_s, hl, zbr_f (show ¬ nI 5 = (1 : Int32) by decide), zbr_f (show ¬ nI 5 = (2 : Int32) by decide), zbr_f (show ¬ nI 5 = (3 : Int32) by decide), zbr_f (show ¬ nI 5 = (4 : Int32) by decide), zbr_t (show nI 5 = (5 : Int32) by decide)]
theorem lwx_6 (h0 : wI tp a e kd 0 = false) (h1 : wI tp a e kd 1 = false) (h2 : wI tp a e kd 2 = false) (h3 : wI tp a e kd 3 = false) (h4 : wI tp a e kd 4 = false) (ht : wI tp a e kd 5 = true) : lwN tp a e kd = 6 := by unfold lwN; rw [h0, h1, h2, h3, h4, ht]; rfl
theorem C_r6 (S : SS b tp n F R N a e kd σc σm) (hl : lwN tp a e kd = 6) : f_X8_readLine 1 σc = zbd (f_X8_readWrote 1 σc) (fun r s => zck (zb r) (some (r, s))) := by
  unfold f_X8_readLine
  rw [zck_t k1, C_lineWord S.1 S.2.1 S.2.2.rs.1 S.q.1, zbd_s, hl, zbr_f (show ¬ nI 6 = (1 : Int32) by decide), zbr_f (show ¬ nI 6 = (2 : Int32) by decide), zbr_f (show ¬ nI 6 = (3 : Int32) by decide), zbr_f (show ¬ nI 6 = (4 : Int32) by decide), zbr_f (show ¬ nI 6 = (5 : Int32) by decide), zbr_t (show nI 6 = (6 : Int32) by decide)]
theorem lwx_7 (h0 : wI tp a e kd 0 = false) (h1 : wI tp a e kd 1 = false) (h2 : wI tp a e kd 2 = false) (h3 : wI tp a e kd 3 = false) (h4 : wI tp a e kd 4 = false) (h5 : wI tp a e kd 5 = false) (ht : wI tp a e kd 6 = true) : lwN tp a e kd = 7 := by unfold lwN; rw [h0, h1, h2, h3, h4, h5, ht]; rfl
theorem C_r7 (S : SS b tp n F R N a e kd σc σm) (hl : lwN tp a e kd = 7) : f_X8_readLine 1 σc = zbd (f_X8_readHidden 1 σc) (fun r s => zck (zb r) (some (r, s))) := by
  unfold f_X8_readLine
  rw [zck_t k1, C_lineWord S.1 S.2.1 S.2.2.rs.1 S.q.1, zbd_s, hl, zbr_f (show ¬ nI 7 = (1 : Int32) by decide), zbr_f (show ¬ nI 7 = (2 : Int32) by decide), zbr_f (show ¬ nI 7 = (3 : Int32) by decide), zbr_f (show ¬ nI 7 = (4 : Int32) by decide), zbr_f (show ¬ nI 7 = (5 : Int32) by decide), zbr_f (show ¬ nI 7 = (6 : Int32) by decide), zbr_t (show nI 7 = (7 : Int32) by decide)]
theorem lwx_8 (h0 : wI tp a e kd 0 = false) (h1 : wI tp a e kd 1 = false) (h2 : wI tp a e kd 2 = false) (h3 : wI tp a e kd 3 = false) (h4 : wI tp a e kd 4 = false) (h5 : wI tp a e kd 5 = false) (h6 : wI tp a e kd 6 = false) (ht : wI tp a e kd 7 = true) : lwN tp a e kd = 8 := by unfold lwN; rw [h0, h1, h2, h3, h4, h5, h6, ht]; rfl
theorem C_r8 (S : SS b tp n F R N a e kd σc σm) (hl : lwN tp a e kd = 8) : f_X8_readLine 1 σc = zbd (f_X8_readDone 1 σc) (fun r s => zck (zb r) (some (r, s))) := by
  unfold f_X8_readLine
  rw [zck_t k1, C_lineWord S.1 S.2.1 S.2.2.rs.1 S.q.1, zbd_s, hl, zbr_f (show ¬ nI 8 = (1 : Int32) by decide), zbr_f (show ¬ nI 8 = (2 : Int32) by decide), zbr_f (show ¬ nI 8 = (3 : Int32) by decide), zbr_f (show ¬ nI 8 = (4 : Int32) by decide), zbr_f (show ¬ nI 8 = (5 : Int32) by decide), zbr_f (show ¬ nI 8 = (6 : Int32) by decide), zbr_f (show ¬ nI 8 = (7 : Int32) by decide), zbr_t (show nI 8 = (8 : Int32) by decide)]
theorem lwx_9 (h0 : wI tp a e kd 0 = false) (h1 : wI tp a e kd 1 = false) (h2 : wI tp a e kd 2 = false) (h3 : wI tp a e kd 3 = false) (h4 : wI tp a e kd 4 = false) (h5 : wI tp a e kd 5 = false) (h6 : wI tp a e kd 6 = false) (h7 : wI tp a e kd 7 = false) (ht : wI tp a e kd 8 = true) : lwN tp a e kd = 9 := by unfold lwN; rw [h0, h1, h2, h3, h4, h5, h6, h7, ht]; rfl
theorem C_r9 (S : SS b tp n F R N a e kd σc σm) (hl : lwN tp a e kd = 9) : f_X8_readLine 1 σc = zbd (f_X8_readBid 1 σc) (fun r s => zck (zb r) (some (r, s))) := by
  unfold f_X8_readLine
  rw [zck_t k1, C_lineWord S.1 S.2.1 S.2.2.rs.1 S.q.1, zbd_s, hl, zbr_f (show ¬ nI 9 = (1 : Int32) by decide), zbr_f (show ¬ nI 9 = (2 : Int32) by decide), zbr_f (show ¬ nI 9 = (3 : Int32) by decide), zbr_f (show ¬ nI 9 = (4 : Int32) by decide), zbr_f (show ¬ nI 9 = (5 : Int32) by decide), zbr_f (show ¬ nI 9 = (6 : Int32) by decide), zbr_f (show ¬ nI 9 = (7 : Int32) by decide), zbr_f (show ¬ nI 9 = (8 : Int32) by decide), zbr_t (show nI 9 = (9 : Int32) by decide)]
theorem lwx_0 (h0 : wI tp a e kd 0 = false) (h1 : wI tp a e kd 1 = false) (h2 : wI tp a e kd 2 = false) (h3 : wI tp a e kd 3 = false) (h4 : wI tp a e kd 4 = false) (h5 : wI tp a e kd 5 = false) (h6 : wI tp a e kd 6 = false) (h7 : wI tp a e kd 7 = false) (h8 : wI tp a e kd 8 = false) : lwN tp a e kd = 0 := by unfold lwN; rw [h0, h1, h2, h3, h4, h5, h6, h7, h8]; rfl
theorem C_r1 (S : SS b tp n F R N a e kd σc σm) (hl : lwN tp a e kd = 1) : f_X8_readLine 1 σc = some (0, bl σc (nI 3) (nI a)) := by
  unfold f_X8_readLine
  rw [zck_t k1, C_lineWord S.1 S.2.1 S.2.2.rs.1 S.q.1, zbd_s, hl, zbr_t (show nI 1 = (1 : Int32) by decide), C_blame S.2.1 S.q.1, zbd_s]; rfl
theorem C_r0 (S : SS b tp n F R N a e kd σc σm) (hl : lwN tp a e kd = 0) : f_X8_readLine 1 σc = some (0, bl σc (nI 1) (nI a)) := by
  unfold f_X8_readLine
  rw [zck_t k1, C_lineWord S.1 S.2.1 S.2.2.rs.1 S.q.1, zbd_s, hl, zbr_f (show ¬ nI 0 = (1 : Int32) by decide), zbr_f (show ¬ nI 0 = (2 : Int32) by decide), zbr_f (show ¬ nI 0 = (3 : Int32) by decide), zbr_f (show ¬ nI 0 = (4 : Int32) by decide), zbr_f (show ¬ nI 0 = (5 : Int32) by decide), zbr_f (show ¬ nI 0 = (6 : Int32) by decide), zbr_f (show ¬ nI 0 = (7 : Int32) by decide), zbr_f (show ¬ nI 0 = (8 : Int32) by decide), zbr_f (show ¬ nI 0 = (9 : Int32) by decide), C_blame S.2.1 S.q.1, zbd_s]; rfl
theorem B_2 (S : SS b tp n F R N a e kd σc σm) (V : VV tp n F R N) (h9 : F 9 = 1) (hb : F 1 ≤ 6 ∧ F 2 ≤ 6 ∧ F 3 ≤ 4 ∧ F 4 ≤ 4 ∧ R 48 ≤ 8 ∧ F 6 ≤ 3 ∧ F 8 ≤ 6) (h0 : wI tp a e kd 0 = false) (ht : wI tp a e kd 1 = true) : OC b tp n e σc σm (f_X8_readLine 1 σc) (f_X11_readLine 0 σm) := by
  rw [C_r2 S (lwx_2 h0 ht)]
  obtain ⟨a1, e1, kd1, c1, m1, x1, -, x3, x4⟩ := NXp S
  by_cases hc : F 1 < 6
  · rw [M_r2 S hb h0 (by rw [cn_1 hc]; exact M_beg1 S (by decide) ht h9 x3)]
    exact OC_w (L_place S V h9 x1 x4 hc)
  · rw [M_r2 S hb h0 (by rw [cn_0 (by omega)]; exact M_beg5 S (by decide) ht h9)]
    refine OC_w (OC_bad (f := 5) (y := nI a) (by omega) (by omega) ?_ (Mf_placeLine (wr_13 _ _ _)) (BC_w (fr_r _ _) _ _) (BM_w (fr_r _ _) _ _))
    obtain ⟨r10, r12, -, -, kL⟩ := S.q
    have hk := S.2.2.k
    unfold f_X8_readPlace
    rw [zck_t k1, r12, zck_t kL, zlt_e, S.g.1.2.1, zbr_f (show ¬ nI (F 1) < (6 : Int32) from (nI_nlt (by omega) (by omega) : ¬ nI (F 1) < nI 6)), C_blame S.2.1 r10, zbd_s]; rfl
theorem B_3 (S : SS b tp n F R N a e kd σc σm) (V : VV tp n F R N) (h9 : F 9 = 1) (hb : F 1 ≤ 6 ∧ F 2 ≤ 6 ∧ F 3 ≤ 4 ∧ F 4 ≤ 4 ∧ R 48 ≤ 8 ∧ F 6 ≤ 3 ∧ F 8 ≤ 6) (h0 : wI tp a e kd 0 = false) (h1 : wI tp a e kd 1 = false) (ht : wI tp a e kd 2 = true) : OC b tp n e σc σm (f_X8_readLine 1 σc) (f_X11_readLine 0 σm) := by
  rw [C_r3 S (lwx_3 h0 h1 ht)]
  obtain ⟨a1, e1, kd1, c1, m1, x1, -, x3, x4⟩ := NXp S
  by_cases hc : F 2 < 6
  · rw [M_r3 S hb h0 h1 (by rw [cn_1 hc]; exact M_beg1 S (by decide) ht h9 x3)]
    exact OC_w (L_over S V h9 x1 x4 hc)
  · rw [M_r3 S hb h0 h1 (by rw [cn_0 (by omega)]; exact M_beg5 S (by decide) ht h9)]
    refine OC_w (OC_bad (f := 5) (y := nI a) (by omega) (by omega) ?_ (Mf_overLine (wr_13 _ _ _)) (BC_w (fr_r _ _) _ _) (BM_w (fr_r _ _) _ _))
    obtain ⟨r10, r12, -, -, kL⟩ := S.q
    have hk := S.2.2.k
    unfold f_X8_readOver
    rw [zck_t k1, r12, zck_t kL, zlt_e, S.g.1.2.2.1, zbr_f (show ¬ nI (F 2) < (6 : Int32) from (nI_nlt (by omega) (by omega) : ¬ nI (F 2) < nI 6)), C_blame S.2.1 r10, zbd_s]; rfl
theorem B_4 (S : SS b tp n F R N a e kd σc σm) (V : VV tp n F R N) (h9 : F 9 = 1) (hb : F 1 ≤ 6 ∧ F 2 ≤ 6 ∧ F 3 ≤ 4 ∧ F 4 ≤ 4 ∧ R 48 ≤ 8 ∧ F 6 ≤ 3 ∧ F 8 ≤ 6) (h0 : wI tp a e kd 0 = false) (h1 : wI tp a e kd 1 = false) (h2 : wI tp a e kd 2 = false) (ht : wI tp a e kd 3 = true) : OC b tp n e σc σm (f_X8_readLine 1 σc) (f_X11_readLine 0 σm) := by
  rw [C_r4 S (lwx_4 h0 h1 h2 ht)]
  obtain ⟨a1, e1, kd1, c1, m1, x1, -, x3, x4⟩ := NXp S
  by_cases hc : F 3 < 4
  · rw [M_r4 S hb h0 h1 h2 (by rw [cn_1 hc]; exact M_beg1 S (by decide) ht h9 x3)]
    exact OC_w (L_hand S V h9 x1 x4 hc)
  · rw [M_r4 S hb h0 h1 h2 (by rw [cn_0 (by omega)]; exact M_beg5 S (by decide) ht h9)]
    refine OC_w (OC_bad (f := 5) (y := nI a) (by omega) (by omega) ?_ (Mf_handLine (wr_13 _ _ _)) (BC_w (fr_r _ _) _ _) (BM_w (fr_r _ _) _ _))
    obtain ⟨r10, r12, -, -, kL⟩ := S.q
    have hk := S.2.2.k
    unfold f_X8_readHand
    rw [zck_t k1, r12, zck_t kL, zlt_e, S.g.1.2.2.2.1, zbr_f (show ¬ nI (F 3) < (4 : Int32) from (nI_nlt (by omega) (by omega) : ¬ nI (F 3) < nI 4)), C_blame S.2.1 r10, zbd_s]; rfl
theorem B_5 (S : SS b tp n F R N a e kd σc σm) (V : VV tp n F R N) (h9 : F 9 = 1) (hb : F 1 ≤ 6 ∧ F 2 ≤ 6 ∧ F 3 ≤ 4 ∧ F 4 ≤ 4 ∧ R 48 ≤ 8 ∧ F 6 ≤ 3 ∧ F 8 ≤ 6) (h0 : wI tp a e kd 0 = false) (h1 : wI tp a e kd 1 = false) (h2 : wI tp a e kd 2 = false) (h3 : wI tp a e kd 3 = false) (ht : wI tp a e kd 4 = true) : OC b tp n e σc σm (f_X8_readLine 1 σc) (f_X11_readLine 0 σm) := by
  rw [C_r5 S (lwx_5 h0 h1 h2 h3 ht)]
  obtain ⟨a1, e1, kd1, c1, m1, x1, -, x3, x4⟩ := NXp S
  by_cases hc : F 4 < 4
  · rw [M_r5 S hb h0 h1 h2 h3 (by rw [cn_1 hc]; exact M_beg1 S (by decide) ht h9 x3)]
    exact OC_w (L_matter S V h9 x1 x4 hc)
  · rw [M_r5 S hb h0 h1 h2 h3 (by rw [cn_0 (by omega)]; exact M_beg5 S (by decide) ht h9)]
    refine OC_w (OC_bad (f := 5) (y := nI a) (by omega) (by omega) ?_ (Mf_matterLine (wr_13 _ _ _)) (BC_w (fr_r _ _) _ _) (BM_w (fr_r _ _) _ _))
    obtain ⟨r10, r12, -, -, kL⟩ := S.q
    have hk := S.2.2.k
    unfold f_X8_readMatter
    rw [zck_t k1, r12, zck_t kL, zlt_e, S.g.1.2.2.2.2.1, zbr_f (show ¬ nI (F 4) < (4 : Int32) from (nI_nlt (by omega) (by omega) : ¬ nI (F 4) < nI 4)), C_blame S.2.1 r10, zbd_s]; rfl
theorem B_6 (S : SS b tp n F R N a e kd σc σm) (V : VV tp n F R N) (h9 : F 9 = 1) (hb : F 1 ≤ 6 ∧ F 2 ≤ 6 ∧ F 3 ≤ 4 ∧ F 4 ≤ 4 ∧ R 48 ≤ 8 ∧ F 6 ≤ 3 ∧ F 8 ≤ 6) (h0 : wI tp a e kd 0 = false) (h1 : wI tp a e kd 1 = false) (h2 : wI tp a e kd 2 = false) (h3 : wI tp a e kd 3 = false) (h4 : wI tp a e kd 4 = false) (ht : wI tp a e kd 5 = true) : OC b tp n e σc σm (f_X8_readLine 1 σc) (f_X11_readLine 0 σm) := by
  rw [C_r6 S (lwx_6 h0 h1 h2 h3 h4 ht)]
  obtain ⟨a1, e1, kd1, c1, m1, x1, -, x3, x4⟩ := NXp S
  by_cases hc : R 48 < 8
  · rw [M_r6 S hb h0 h1 h2 h3 h4 (by rw [cn_1 hc]; exact M_beg1 S (by decide) ht h9 x3)]
    exact OC_w (L_wrote S V h9 x1 x4 hc)
  · rw [M_r6 S hb h0 h1 h2 h3 h4 (by rw [cn_0 (by omega)]; exact M_beg5 S (by decide) ht h9)]
    refine OC_w (OC_bad (f := 5) (y := nI a) (by omega) (by omega) ?_ (Mf_wroteLine (wr_13 _ _ _)) (BC_w (fr_r _ _) _ _) (BM_w (fr_r _ _) _ _))
    obtain ⟨r10, r12, -, -, kL⟩ := S.q
    have hk := S.2.2.k
    unfold f_X8_readWrote
    rw [zck_t k1, r12, zck_t kL, hk.2.1.2.2.2.2.2.2.2.1, zck_t hk.2.2.2.2.2.2.1, S.p.1, zbr_f (show ¬ nI (R 48) < (8 : Int32) from (nI_nlt (by omega) (by omega) : ¬ nI (R 48) < nI 8)), C_blame S.2.1 r10, zbd_s]; rfl
theorem B_7 (S : SS b tp n F R N a e kd σc σm) (V : VV tp n F R N) (h9 : F 9 = 1) (hb : F 1 ≤ 6 ∧ F 2 ≤ 6 ∧ F 3 ≤ 4 ∧ F 4 ≤ 4 ∧ R 48 ≤ 8 ∧ F 6 ≤ 3 ∧ F 8 ≤ 6) (h0 : wI tp a e kd 0 = false) (h1 : wI tp a e kd 1 = false) (h2 : wI tp a e kd 2 = false) (h3 : wI tp a e kd 3 = false) (h4 : wI tp a e kd 4 = false) (h5 : wI tp a e kd 5 = false) (ht : wI tp a e kd 6 = true) : OC b tp n e σc σm (f_X8_readLine 1 σc) (f_X11_readLine 0 σm) := by
  rw [C_r7 S (lwx_7 h0 h1 h2 h3 h4 h5 ht)]
  obtain ⟨a1, e1, kd1, c1, m1, x1, -, x3, x4⟩ := NXp S
  by_cases hc : F 6 < 3
  · rw [M_r7 S hb h0 h1 h2 h3 h4 h5 (by rw [cn_1 hc]; exact M_beg1 S (by decide) ht h9 x3)]
    exact OC_w (L_hidden S V h9 x1 x4 hc)
  · rw [M_r7 S hb h0 h1 h2 h3 h4 h5 (by rw [cn_0 (by omega)]; exact M_beg5 S (by decide) ht h9)]
    refine OC_w (OC_bad (f := 5) (y := nI a) (by omega) (by omega) ?_ (Mf_hiddenLine (wr_13 _ _ _)) (BC_w (fr_r _ _) _ _) (BM_w (fr_r _ _) _ _))
    obtain ⟨r10, r12, -, -, kL⟩ := S.q
    have hk := S.2.2.k
    unfold f_X8_readHidden
    rw [zck_t k1, r12, zck_t kL, zlt_e, S.g.1.2.2.2.2.2.1, zbr_f (show ¬ nI (F 6) < (3 : Int32) from (nI_nlt (by omega) (by omega) : ¬ nI (F 6) < nI 3)), C_blame S.2.1 r10, zbd_s]; rfl
theorem B_8 (S : SS b tp n F R N a e kd σc σm) (V : VV tp n F R N) (h9 : F 9 = 1) (hb : F 1 ≤ 6 ∧ F 2 ≤ 6 ∧ F 3 ≤ 4 ∧ F 4 ≤ 4 ∧ R 48 ≤ 8 ∧ F 6 ≤ 3 ∧ F 8 ≤ 6) (h0 : wI tp a e kd 0 = false) (h1 : wI tp a e kd 1 = false) (h2 : wI tp a e kd 2 = false) (h3 : wI tp a e kd 3 = false) (h4 : wI tp a e kd 4 = false) (h5 : wI tp a e kd 5 = false) (h6 : wI tp a e kd 6 = false) (ht : wI tp a e kd 7 = true) : OC b tp n e σc σm (f_X8_readLine 1 σc) (f_X11_readLine 0 σm) := by
  rw [C_r8 S (lwx_8 h0 h1 h2 h3 h4 h5 h6 ht)]
  obtain ⟨a1, e1, kd1, c1, m1, x1, -, x3, x4⟩ := NXp S
  rw [M_r8 S hb h0 h1 h2 h3 h4 h5 h6 (M_beg1 S (by decide) ht h9 x3)]
  exact OC_w (L_done S V h9 x1 x4)
theorem B_9 (S : SS b tp n F R N a e kd σc σm) (V : VV tp n F R N) (h9 : F 9 = 1) (hb : F 1 ≤ 6 ∧ F 2 ≤ 6 ∧ F 3 ≤ 4 ∧ F 4 ≤ 4 ∧ R 48 ≤ 8 ∧ F 6 ≤ 3 ∧ F 8 ≤ 6) (h0 : wI tp a e kd 0 = false) (h1 : wI tp a e kd 1 = false) (h2 : wI tp a e kd 2 = false) (h3 : wI tp a e kd 3 = false) (h4 : wI tp a e kd 4 = false) (h5 : wI tp a e kd 5 = false) (h6 : wI tp a e kd 6 = false) (h7 : wI tp a e kd 7 = false) (ht : wI tp a e kd 8 = true) : OC b tp n e σc σm (f_X8_readLine 1 σc) (f_X11_readLine 0 σm) := by
  rw [C_r9 S (lwx_9 h0 h1 h2 h3 h4 h5 h6 h7 ht)]
  obtain ⟨a1, e1, kd1, c1, m1, x1, -, x3, x4⟩ := NXp S
  by_cases hc : F 8 < 6
  · rw [M_r9 S hb h0 h1 h2 h3 h4 h5 h6 h7 (by rw [cn_1 hc]; exact M_beg1 S (by decide) ht h9 x3)]
    exact OC_w (L_bid S V h9 x1 x4 hc)
  · rw [M_r9 S hb h0 h1 h2 h3 h4 h5 h6 h7 (by rw [cn_0 (by omega)]; exact M_beg5 S (by decide) ht h9)]
    refine OC_w (OC_bad (f := 5) (y := nI a) (by omega) (by omega) ?_ (Mf_bidLine (wr_13 _ _ _)) (BC_w (fr_r _ _) _ _) (BM_w (fr_r _ _) _ _))
    obtain ⟨r10, r12, -, -, kL⟩ := S.q
    have hk := S.2.2.k
    unfold f_X8_readBid
    rw [zck_t k1, r12, zck_t kL, hk.2.1.2.2.2.2.2.2.2.2, zck_t hk.2.2.2.1, S.g.1.2.2.2.2.2.2.2, zbr_f (show ¬ nI (F 8) < (6 : Int32) from (nI_nlt (by omega) (by omega) : ¬ nI (F 8) < nI 6)), C_blame S.2.1 r10, zbd_s]; rfl
theorem L_line (S : SS b tp n F R N a e kd σc σm) (V : VV tp n F R N) (h9 : F 9 = 1) : OC b tp n e σc σm (f_X8_readLine 1 σc) (f_X11_readLine 0 σm) := by
  obtain ⟨v0, v1, v2, v3, v4, v6, v8⟩ := V.1.1
  have hb : F 1 ≤ 6 ∧ F 2 ≤ 6 ∧ F 3 ≤ 4 ∧ F 4 ≤ 4 ∧ R 48 ≤ 8 ∧ F 6 ≤ 3 ∧ F 8 ≤ 6 := ⟨v1, v2, v3, v4, V.2.1.1.1, v6, v8⟩
  cases h0 : wI tp a e kd 0 with
  | true =>
    refine OC_bad (f := 3) (y := nI a) (by omega) (by omega) (C_r1 S (lwx_1 h0)) ?_ (BC_w (fr_r _ _) _ _) (BM_w (fr_r _ _) _ _)
    unfold f_X11_readLine f_X11_letterLine
    rw [zck_t w0, M_isWord S.2.1 S.q.2.2.1 S.q.2.2.2.1 S.1.1 (j := 0) (by decide), zbd_s, h0, zbr_f (c := bI true = 0) (by decide), zck_t w0, mr16 S.q.2.2.1, w4, zck_t (by decide), cl9, S.r4 9 (by omega), h9, zbr_f (show ¬ nI 1 ≤ (0 : Int32) by decide), S.2.1.2.2.1.1, M_wrong S.q.2.2.2.1, zbd_s]
    unfold f_X11_letterLine_19
    rw [zbr_f (by rw [wr_13]; decide), zbd_s]; rfl
  | false =>
    cases h1 : wI tp a e kd 1 with
    | true => exact B_2 S V h9 hb h0 h1
    | false =>
      cases h2 : wI tp a e kd 2 with
      | true => exact B_3 S V h9 hb h0 h1 h2
      | false =>
        cases h3 : wI tp a e kd 3 with
        | true => exact B_4 S V h9 hb h0 h1 h2 h3
        | false =>
          cases h4 : wI tp a e kd 4 with
          | true => exact B_5 S V h9 hb h0 h1 h2 h3 h4
          | false =>
            cases h5 : wI tp a e kd 5 with
            | true => exact B_6 S V h9 hb h0 h1 h2 h3 h4 h5
            | false =>
              cases h6 : wI tp a e kd 6 with
              | true => exact B_7 S V h9 hb h0 h1 h2 h3 h4 h5 h6
              | false =>
                cases h7 : wI tp a e kd 7 with
                | true => exact B_8 S V h9 hb h0 h1 h2 h3 h4 h5 h6 h7
                | false =>
                  cases h8 : wI tp a e kd 8 with
                  | true => exact B_9 S V h9 hb h0 h1 h2 h3 h4 h5 h6 h7 h8
                  | false =>
                    exact OC_bad (f := 1) (y := nI a) (by omega) (by omega) (C_r0 S (lwx_0 h0 h1 h2 h3 h4 h5 h6 h7 h8)) (M_r0 S hb h0 h1 h2 h3 h4 h5 h6 h7 h8) (BC_w (fr_r _ _) _ _) (BM_w (fr_r _ _) _ _)
theorem VV.head (h : VV tp n F R N) {v : Nat} (hv : v ≤ 100) : VV tp n (uF (uF F 0 v) 9 1) R N := by
  obtain ⟨hF, hP, hV, t1, t2⟩ := h
  have e : ∀ k, k ≠ 0 → k ≠ 9 → uF (uF F 0 v) 9 1 k = F k := fun k z1 z2 => by rw [upN z2, upN z1]
  have eh : ∀ k, 1 ≤ k ∧ k ≤ 8 ∨ 10 ≤ k → uF (uF F 0 v) 9 1 k = F k := fun k z => e k (by omega) (by omega)
  have z0 : uF (uF F 0 v) 9 1 0 = v := by rw [upN (by omega), upE]
  have z1 := eh 1 (by omega)
  have z2 := eh 2 (by omega)
  have z3 := eh 3 (by omega)
  have z4 := eh 4 (by omega)
  have z6 := eh 6 (by omega)
  have z7 := eh 7 (by omega)
  have z8 := eh 8 (by omega)
  obtain ⟨⟨a0, a1, a2, a3, a4, a6, a8⟩, b1, b2, b3, b4, b5, b6, b7, b8⟩ := hF
  refine ⟨⟨by rw [z0, z1, z2, z3, z4, z6, z8]; exact ⟨hv, a1, a2, a3, a4, a6, a8⟩, fun p hp => ?_, fun p q hp hq hpq => ?_, fun k hk => ?_, fun k j hk hj hkj => ?_, fun k hk => ?_, fun k hk => ?_, fun k hk => ?_, fun k hk => ?_⟩, hP.m (by omega) (by omega) (by omega) (fun p hp => ?_), hV.s z1 z3 z4, fun m h1 h2 => ?_, ?_⟩
  · rw [eh _ (by omega), eh _ (by omega)]; exact b1 p (by omega)
  · rw [eh _ (by omega), eh _ (by omega)]; exact b2 p q (by omega) (by omega) hpq
  · rw [z1, eh _ (by omega), eh _ (by omega)]; exact b3 k (by omega)
  · rw [eh (22 + 2 * k) (by omega), eh (23 + 2 * k) (by omega), eh (22 + 2 * j) (by omega), eh (23 + 2 * j) (by omega)]; exact b4 k j (by omega) (by omega) hkj
  · rw [eh _ (by omega)]; exact b5 k (by omega)
  · rw [z1, eh _ (by omega)]; exact b6 k (by omega)
  · rw [eh _ (by omega)]; exact b7 k (by omega)
  · rw [z1, z3, eh _ (by omega), eh _ (by omega), eh _ (by omega), eh _ (by omega)]; exact b8 k (by omega)
  · rw [eh _ (by omega)]; exact hP.2 p (by omega)
  · rw [eh _ (by omega)]; exact t1 m (by omega) h2
  · rw [z7, eh _ (by omega), eh _ (by omega), eh _ (by omega), eh _ (by omega)]; exact t2
theorem C_hd (S : SS b tp n F R N a e kd σc σm) {i : Nat} (hl : lwN tp a e kd = i) (hi : i < 10) (h1 : i ≠ 1) : f_X8_readHead 1 σc = some (0, bl σc (nI (if i = 0 then 1 else 6)) (nI a)) := by
  unfold f_X8_readHead f_X8_readHead_21
  rw [zck_t k1, C_lineWord S.1 S.2.1 S.2.2.rs.1 S.q.1, zbd_s, zlt_e, hl, zbr_f (show ¬ nI i = (1 : Int32) from fun z => h1 ((nI_eq (b := 1) (by omega) (by decide)).mp z))]
  by_cases z : i = 0
  · rw [if_pos z, zbr_t (show nI i = (0 : Int32) by rw [z]; rfl), zck_t k1, C_blame S.2.1 S.q.1, zbd_s]; rfl
  · rw [if_neg z, zbr_f (nI_ne0 (by omega) (by omega)), zck_t k1, C_blame S.2.1 S.q.1, zbd_s]; rfl
theorem L_head (S : SS b tp n F R N a e kd σc σm) (V : VV tp n F R N) (h9 : F 9 = 0) (hz : F 1 = 0 ∧ F 2 = 0 ∧ F 3 = 0 ∧ F 4 = 0 ∧ R 48 = 0 ∧ F 6 = 0 ∧ F 8 = 0) : OC b tp n e σc σm (f_X8_readHead 1 σc) (f_X11_readLine 0 σm) := by
  have hb : F 1 ≤ 6 ∧ F 2 ≤ 6 ∧ F 3 ≤ 4 ∧ F 4 ≤ 4 ∧ R 48 ≤ 8 ∧ F 6 ≤ 3 ∧ F 8 ≤ 6 := by omega
  cases h0 : wI tp a e kd 0 with
  | true =>
    obtain ⟨r10, r12, hR, h13, kL⟩ := S.q
    have hv := Ld_v b
    obtain ⟨a1, e1, kd1, c1, m1, x1, x2, x3⟩ := NX S
    have S1 := x3.1
    apply OC_c
    · unfold f_X8_readHead
      rw [zck_t k1, C_lineWord S.1 S.2.1 S.2.2.rs.1 S.q.1, zbd_s, zlt_e, lwx_1 h0, zbr_t (show nI 1 = (1 : Int32) by decide), r10, zck_t k2, x1, zbd_s]
    apply OC_m
    · unfold f_X11_readLine f_X11_letterLine f_X11_letterLine_19
      rw [zck_t w0, M_isWord S.2.1 hR h13 S.1.1 (j := 0) (by decide), zbd_s, h0, zbr_f (c := bI true = 0) (by decide), zck_t w0, mr16 hR, w4, zck_t (by decide), cl9, S.r4 9 (by omega), h9, zbr_t (show nI 0 ≤ (0 : Int32) by decide), zbr_t h13, x2, zbd_s, mr16 S1.q.2.2.1, w4]
    rcases P_after S1 (j := 9) (lo := 0) (hi := 100) (by decide) (by decide) (by decide) with ⟨v, a5, e5, kd5, υ, c5, m5, t1, t2, t3, t4, t5, t6, t7⟩ | ⟨f, y, c5, m5, f1, f2, t3, t6, t7, t8⟩
    · refine OC_c (t3 _) ?_
      have t6 : f_X11_after 0 (1000 + 9) (0 : Int32) (100 : Int32) m1 = some (nI v, m5) := t6
      have S5 := t7.1
      have SA : SS b tp n (uF F 0 v) R N a5 e5 kd5 (zpi c5 (Ld b) 9 (nI v)) (zpi m5 4 0 (nI v)) :=
        S5.u ((fr_r _ _).pi _ (by omega)) ((fr_r _ _).pi _ (by omega)) (S5.g.c0 (fun x l z => zpi_ne _ _ z) (zpi_eq _ _ _ _)) (S5.p.f (fun x l _ _ => zpi_ne _ _ (by omega))) (upR S5.r4 _ _) (fun l hl => (zpi_ne _ _ (by omega)).trans (S5.r6 l hl))
      have SB := SA.jr (j := 9) ⟨fun k hk => by omega, fun p hp => by omega, fun p hp => by omega, fun p hp => by omega, fun p hp => by omega, fun p hp => by omega, fun p hp => by omega⟩ (by omega) 1
      have hυ : υ.2 1 2 = Ld b := by rw [t5]; exact S1.q.2.1
      refine Or.inl ⟨_, R, _, a5, e5, kd5, _, _, ?_, ?_, SB, V.head t2, upE, ?_, ?_, ?_⟩
      · rw [t4, zbd_s, hυ, zck_t kL, zlt_e]; rfl
      · rw [t6, zbd_s, zck_t (by decide), cl0, zlt_e, zbr_t SA.q.2.2.2.1, zpi_2, mr16 S5.q.2.2.1, w4, zck_t (by decide), zlt_e, zbd_s]; rfl
      · exact (x3.c.tr t7.c).tr (pc_d ((fr_r (fun x _ => Ld b ≤ x ∧ x ≤ Ld b + 18) c5).pi _ (by omega)))
      · exact ((x3.m.tr t7.m).pi _ (by unfold PMd; omega)).pi _ (by unfold PMd; omega)
      · have := x3.2.2.2
        have := S1.2.1.1.1
        have := t7.2.2.2
        omega
    · have t6 : f_X11_after 0 (1000 + 9) (0 : Int32) (100 : Int32) m1 = some (0, m5) := t6
      refine OC_bad (f := f) f1 f2 (t3 _) ?_ ⟨t7.1, t7.2.1, x3.c.tre t7.2.2⟩ (BM.p ⟨t8.1, t8.2.1, t8.2.2.1, x3.m.trm t8.2.2.2⟩ 0 0)
      rw [t6, zbd_s, zck_t (by decide), cl0, zlt_e, zbr_f (by rw [p13 t8.1]; decide), zbd_s]
  | false =>
    cases h1 : wI tp a e kd 1 with
    | true =>
      refine OC_bad (f := 6) (y := nI a) (by omega) (by omega) (C_hd S (lwx_2 h0 h1) (by decide) (by decide)) ?_ (BC_w (fr_r _ _) _ _) (BM_w (fr_r _ _) _ _)
      rw [M_r2 S hb h0 (by rw [cn_1 (by omega)]; exact M_beg6 S (by decide) h1 h9), Mf_placeLine (wr_13 _ _ _), zbd_s]
    | false =>
      cases h2 : wI tp a e kd 2 with
      | true =>
        refine OC_bad (f := 6) (y := nI a) (by omega) (by omega) (C_hd S (lwx_3 h0 h1 h2) (by decide) (by decide)) ?_ (BC_w (fr_r _ _) _ _) (BM_w (fr_r _ _) _ _)
        rw [M_r3 S hb h0 h1 (by rw [cn_1 (by omega)]; exact M_beg6 S (by decide) h2 h9), Mf_overLine (wr_13 _ _ _), zbd_s]
      | false =>
        cases h3 : wI tp a e kd 3 with
        | true =>
          refine OC_bad (f := 6) (y := nI a) (by omega) (by omega) (C_hd S (lwx_4 h0 h1 h2 h3) (by decide) (by decide)) ?_ (BC_w (fr_r _ _) _ _) (BM_w (fr_r _ _) _ _)
          rw [M_r4 S hb h0 h1 h2 (by rw [cn_1 (by omega)]; exact M_beg6 S (by decide) h3 h9), Mf_handLine (wr_13 _ _ _), zbd_s]
        | false =>
          cases h4 : wI tp a e kd 4 with
          | true =>
            refine OC_bad (f := 6) (y := nI a) (by omega) (by omega) (C_hd S (lwx_5 h0 h1 h2 h3 h4) (by decide) (by decide)) ?_ (BC_w (fr_r _ _) _ _) (BM_w (fr_r _ _) _ _)
            rw [M_r5 S hb h0 h1 h2 h3 (by rw [cn_1 (by omega)]; exact M_beg6 S (by decide) h4 h9), Mf_matterLine (wr_13 _ _ _), zbd_s]
          | false =>
            cases h5 : wI tp a e kd 5 with
            | true =>
              refine OC_bad (f := 6) (y := nI a) (by omega) (by omega) (C_hd S (lwx_6 h0 h1 h2 h3 h4 h5) (by decide) (by decide)) ?_ (BC_w (fr_r _ _) _ _) (BM_w (fr_r _ _) _ _)
              rw [M_r6 S hb h0 h1 h2 h3 h4 (by rw [cn_1 (by omega)]; exact M_beg6 S (by decide) h5 h9), Mf_wroteLine (wr_13 _ _ _), zbd_s]
            | false =>
              cases h6 : wI tp a e kd 6 with
              | true =>
                refine OC_bad (f := 6) (y := nI a) (by omega) (by omega) (C_hd S (lwx_7 h0 h1 h2 h3 h4 h5 h6) (by decide) (by decide)) ?_ (BC_w (fr_r _ _) _ _) (BM_w (fr_r _ _) _ _)
                rw [M_r7 S hb h0 h1 h2 h3 h4 h5 (by rw [cn_1 (by omega)]; exact M_beg6 S (by decide) h6 h9), Mf_hiddenLine (wr_13 _ _ _), zbd_s]
              | false =>
                cases h7 : wI tp a e kd 7 with
                | true =>
                  refine OC_bad (f := 6) (y := nI a) (by omega) (by omega) (C_hd S (lwx_8 h0 h1 h2 h3 h4 h5 h6 h7) (by decide) (by decide)) ?_ (BC_w (fr_r _ _) _ _) (BM_w (fr_r _ _) _ _)
                  rw [M_r8 S hb h0 h1 h2 h3 h4 h5 h6 (M_beg6 S (by decide) h7 h9), Mf_doneLine (wr_13 _ _ _), zbd_s]
                | false =>
                  cases h8 : wI tp a e kd 8 with
                  | true =>
                    refine OC_bad (f := 6) (y := nI a) (by omega) (by omega) (C_hd S (lwx_9 h0 h1 h2 h3 h4 h5 h6 h7 h8) (by decide) (by decide)) ?_ (BC_w (fr_r _ _) _ _) (BM_w (fr_r _ _) _ _)
                    rw [M_r9 S hb h0 h1 h2 h3 h4 h5 h6 h7 (by rw [cn_1 (by omega)]; exact M_beg6 S (by decide) h8 h9), Mf_bidLine (wr_13 _ _ _), zbd_s]
                  | false =>
                    exact OC_bad (f := 1) (y := nI a) (by omega) (by omega) (C_hd S (lwx_0 h0 h1 h2 h3 h4 h5 h6 h7 h8) (by decide) (by decide)) (M_r0 S hb h0 h1 h2 h3 h4 h5 h6 h7 h8) (BC_w (fr_r _ _) _ _) (BM_w (fr_r _ _) _ _)
end LG2
