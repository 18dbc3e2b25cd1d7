theorem td_w0 (x y : Int32) (m : Nat → Int32) : td_w 0 x y m = x := by simp [td_w]
theorem td_v0 (x y z : Int32) (m : Nat → Int32) : td_v 0 x y z m = y := by simp [td_v]
theorem td_n0 (x y : Int32) (i : Nat) (m : Nat → Int32) : td_n 0 x y i m = i + 1 := by simp [td_n]
theorem td_w1 (x y : Int32) (m : Nat → Int32) : td_w 1 x y m = x := by simp [td_w]
theorem td_v1 (x y z : Int32) (m : Nat → Int32) : td_v 1 x y z m = m y.toNatClampNeg + m z.toNatClampNeg := by simp [td_v]
theorem td_n1 (x y : Int32) (i : Nat) (m : Nat → Int32) : td_n 1 x y i m = i + 1 := by simp [td_n]
theorem td_w2 (x y : Int32) (m : Nat → Int32) : td_w 2 x y m = x := by simp [td_w]
theorem td_v2 (x y z : Int32) (m : Nat → Int32) : td_v 2 x y z m = m y.toNatClampNeg - m z.toNatClampNeg := by simp [td_v]
theorem td_n2 (x y : Int32) (i : Nat) (m : Nat → Int32) : td_n 2 x y i m = i + 1 := by simp [td_n]
theorem td_w3 (x y : Int32) (m : Nat → Int32) : td_w 3 x y m = x := by simp [td_w]
theorem td_v3 (x y z : Int32) (m : Nat → Int32) : td_v 3 x y z m = m y.toNatClampNeg * m z.toNatClampNeg := by simp [td_v]
theorem td_n3 (x y : Int32) (i : Nat) (m : Nat → Int32) : td_n 3 x y i m = i + 1 := by simp [td_n]
theorem td_w4 (x y : Int32) (m : Nat → Int32) : td_w 4 x y m = x := by simp [td_w]
theorem td_v4 (x y z : Int32) (m : Nat → Int32) : td_v 4 x y z m = m (6 + (m y.toNatClampNeg &&& 7)).toNatClampNeg := by simp [td_v]
theorem td_n4 (x y : Int32) (i : Nat) (m : Nat → Int32) : td_n 4 x y i m = i + 1 := by simp [td_n]
theorem td_w5 (x y : Int32) (m : Nat → Int32) : td_w 5 x y m = 6 + (m y.toNatClampNeg &&& 7) := by simp [td_w]
theorem td_v5 (x y z : Int32) (m : Nat → Int32) : td_v 5 x y z m = m x.toNatClampNeg := by simp [td_v]
theorem td_n5 (x y : Int32) (i : Nat) (m : Nat → Int32) : td_n 5 x y i m = i + 1 := by simp [td_n]
theorem td_w6 (x y : Int32) (m : Nat → Int32) : td_w 6 x y m = -1 := by simp [td_w]
theorem td_n6 (x y : Int32) (i : Nat) (m : Nat → Int32) : td_n 6 x y i m = if 0 < m x.toNatClampNeg then y.toNatClampNeg else i + 1 := by simp [td_n]
theorem td_w7 (x y : Int32) (m : Nat → Int32) : td_w 7 x y m = -1 := by simp [td_w]
theorem td_n7 (x y : Int32) (i : Nat) (m : Nat → Int32) : td_n 7 x y i m = x.toNatClampNeg := by simp [td_n]
theorem td_w8 (x y : Int32) (m : Nat → Int32) : td_w 8 x y m = -1 := by simp [td_w]
theorem td_n8 (x y : Int32) (i : Nat) (m : Nat → Int32) : td_n 8 x y i m = i := by simp [td_n]
theorem td_Xvar {post : Int32 → Prop} {x : Int32} (h1 : td_V x → post 1) (h0 : ¬ td_V x → post 0) : wpX_isVariable post x := by
  unfold wpX_isVariable
  exact br_c (fun h => h0 fun z => (td_V_lt.mp z).1 h) fun h => br_c (fun g => h0 fun z => absurd (td_V_lt.mp z).2 (Int32.not_lt.mpr g)) fun g => h1 (td_V_lt.mpr ⟨h, Int32.not_le.mp g⟩)
theorem td_Xins_no {post : Int32 → Prop} {x : Int32} (h1 : td_L x → post 1) (h0 : ¬ td_L x → post 0) : wpX_isInstructionNumber post x := by
  unfold wpX_isInstructionNumber
  exact br_c (fun h => h0 fun z => (td_L_lt.mp z).1 h) fun h => br_c (fun g => h0 fun z => absurd (td_L_lt.mp z).2 (Int32.not_lt.mpr g)) fun g => h1 (td_L_lt.mpr ⟨h, Int32.not_le.mp g⟩)
theorem td_Xcell {post : Int32 → Prop} {x : Int32} (h1 : td_C x → post 1) (h0 : ¬ td_C x → post 0) : wpX_isCell post x := by
  unfold wpX_isCell
  exact br_c (fun h => h0 fun z => (td_C_lt.mp z).1 h) fun h => br_c (fun g => h0 fun z => absurd (td_C_lt.mp z).2 (Int32.not_lt.mpr g)) fun g => h1 (td_C_lt.mpr ⟨h, Int32.not_le.mp g⟩)
theorem td_X57 {post : Int32 → Prop} {x y z : Int32} (h1 : td_V x ∧ td_V y ∧ td_V z → post 1) (h0 : ¬ (td_V x ∧ td_V y ∧ td_V z) → post 0) : wX_isInstruction_57 post x y z := by
  unfold wX_isInstruction_57
  refine td_Xvar (fun hx => br_f (by decide) (td_Xvar (fun hy => br_f (by decide) (td_Xvar (fun hz => br_f (by decide) (h1 ⟨hx, hy, hz⟩)) (fun g => br_t rfl (h0 fun z => g z.2.2)))) (fun g => br_t rfl (h0 fun z => g z.2.1)))) (fun g => br_t rfl (h0 fun z => g z.1))
theorem td_X84 {post : Int32 → Prop} {x y : Int32} (h1 : td_V x ∧ td_V y → post 1) (h0 : ¬ (td_V x ∧ td_V y) → post 0) : wX_isInstruction_84 post x y := by
  unfold wX_isInstruction_84
  refine td_Xvar (fun hx => br_f (by decide) (td_Xvar (fun hy => br_f (by decide) (h1 ⟨hx, hy⟩)) (fun g => br_t rfl (h0 fun z => g z.2)))) (fun g => br_t rfl (h0 fun z => g z.1))
theorem td_Xins {post : Int32 → Prop} {o x y z : Int32} (h1 : td_ok o x y z → post 1) (h0 : ¬ td_ok o x y z → post 0) : wpX_isInstruction post o x y z := by
  unfold wpX_isInstruction
  refine br_c (fun h => h0 fun g => ?_) fun _ => br_c (fun h => h0 fun g => ?_) fun _ => ?_
  · obtain ⟨j, hj, rfl⟩ := td_okR g
    exact absurd h (nI_pos (by omega))
  · obtain ⟨j, hj, rfl⟩ := td_okR g
    exact absurd h (nI_nlt (a := 8) (by omega) (by decide))
  refine br_c (fun e => ?_) fun _ => br_c (fun e => ?_) fun _ => br_c (fun e => ?_) fun _ => br_c (fun e => ?_) fun _ => br_c (fun e => ?_) fun _ => br_c (fun e => ?_) fun _ => br_c (fun e => ?_) fun _ => br_c (fun e => ?_) fun _ => br_c (fun e => ?_) fun _ => trivial
  · subst e
    exact td_Xvar (fun h => ⟨rfl, h1 (td_ok0.mpr h)⟩) (fun h => ⟨rfl, h0 fun g => h (td_ok0.mp g)⟩)
  · subst e
    exact td_X57 (fun h => h1 (td_ok1.mpr h)) (fun h => h0 fun g => h (td_ok1.mp g))
  · subst e
    exact td_X57 (fun h => h1 (td_ok2.mpr h)) (fun h => h0 fun g => h (td_ok2.mp g))
  · subst e
    exact td_X57 (fun h => h1 (td_ok3.mpr h)) (fun h => h0 fun g => h (td_ok3.mp g))
  · subst e
    exact td_X84 (fun h => h1 (td_ok4.mpr h)) (fun h => h0 fun g => h (td_ok4.mp g))
  · subst e
    exact td_X84 (fun h => h1 (td_ok5.mpr h)) (fun h => h0 fun g => h (td_ok5.mp g))
  · subst e
    exact td_Xvar (fun hx => br_f (by decide) (td_Xins_no (fun hy => br_f (by decide) (h1 (td_ok6.mpr ⟨hx, hy⟩))) (fun h => br_t rfl (h0 fun g => h (td_ok6.mp g).2)))) (fun h => br_t rfl (h0 fun g => h (td_ok6.mp g).1))
  · subst e
    exact td_Xins_no (fun h => ⟨rfl, h1 (td_ok7.mpr h)⟩) (fun h => ⟨rfl, h0 fun g => h (td_ok7.mp g)⟩)
  · subst e
    exact h1 td_ok8
section
variable {ic sc nw : Int32} {op xo yo zo va na wb : Nat → Int32} {m : Nat → Int32} {i b : Nat}
/-- reading the place p of the row of the table that begins at b -/
theorem td_rd (hb : b + 14 ≤ 2814) (hm : ∀ p, p < 14 → va (b + p) = m p) {p : Nat} (hp : p < 14) : vp_in (nI b + nI p) 2814 ∧ va (nI b + nI p).toNatClampNeg = m p := by
  rw [nI_add, nI_clamp (by omega)]
  exact ⟨vp_in_nI (by omega) (by decide), hm p hp⟩
theorem td_Xcn {post : Int32 → Prop} (hb : b + 14 ≤ 2814) (hm : ∀ p, p < 14 → va (b + p) = m p) {y : Int32} (hy : td_V y) (h : post (6 + (m y.toNatClampNeg &&& 7))) :
    wpX_cellNamedBy post (ic, sc, nw, op, xo, yo, zo, va, na, wb) y (nI b) := by
  obtain ⟨j, hj, rfl⟩ := hy
  have r := td_rd hb hm (p := j) (by omega)
  rw [nI_clamp (by omega)] at h
  unfold wpX_cellNamedBy
  dsimp only
  rw [r.2]
  exact ⟨r.1, h⟩
theorem td_Xpw {post : Int32 → Prop} (hi : i < 20) (hok : td_ok (op i) (xo i) (yo i) (zo i)) (hb : b + 14 ≤ 2814) (hm : ∀ p, p < 14 → va (b + p) = m p)
    (h : post (td_w (op i) (xo i) (yo i) m)) : wpX_placeWritten post (ic, sc, nw, op, xo, yo, zo, va, na, wb) (nI i) (nI b) := by
  have hin : vp_in (nI i) 20 := vp_in_nI hi (by decide)
  unfold wpX_placeWritten
  dsimp only
  rw [nI_clamp (show i < 2 ^ 31 by omega)]
  refine ⟨hin, nm_e ?_⟩
  rcases hok with ⟨e, hx⟩ | ⟨e, hx⟩ | ⟨e, hx⟩ | ⟨e, hx⟩ | ⟨e, hx⟩ | ⟨e, hx, hy⟩ | ⟨e, hx⟩ | ⟨e, hx⟩ | e <;> rw [e] at h ⊢
  · rw [td_w0] at h
    exact br_f (by decide) (br_f (by decide) (br_t rfl ⟨hin, h⟩))
  · rw [td_w1] at h
    exact br_f (by decide) (br_f (by decide) (br_f (by decide) (br_t rfl ⟨hin, h⟩)))
  · rw [td_w2] at h
    exact br_f (by decide) (br_f (by decide) (br_f (by decide) (br_f (by decide) (br_t rfl ⟨hin, h⟩))))
  · rw [td_w3] at h
    exact br_f (by decide) (br_f (by decide) (br_f (by decide) (br_f (by decide) (br_f (by decide) (br_t rfl ⟨hin, h⟩)))))
  · rw [td_w4] at h
    exact br_f (by decide) (br_f (by decide) (br_f (by decide) (br_f (by decide) (br_f (by decide) (br_f (by decide) (br_t rfl ⟨hin, h⟩))))))
  · rw [td_w5] at h
    exact br_f (by decide) (br_f (by decide) (br_f (by decide) (br_f (by decide) (br_f (by decide) (br_f (by decide) (br_f (by decide) (br_t rfl ⟨hin, td_Xcn hb hm hy h⟩)))))))
  · rw [td_w6] at h
    exact br_f (by decide) (br_t (by decide) h)
  · rw [td_w7] at h
    exact br_f (by decide) (br_t (by decide) h)
  · rw [td_w8] at h
    exact br_f (by decide) (br_t (by decide) h)
theorem td_Xvw {post : Int32 → Prop} (hi : i < 20) (hok : td_ok (op i) (xo i) (yo i) (zo i)) (hb : b + 14 ≤ 2814) (hm : ∀ p, p < 14 → va (b + p) = m p)
    (hw : td_w (op i) (xo i) (yo i) m ≠ -1) (h : post (td_v (op i) (xo i) (yo i) (zo i) m)) : wpX_valueWritten post (ic, sc, nw, op, xo, yo, zo, va, na, wb) (nI i) (nI b) := by
  have hin : vp_in (nI i) 20 := vp_in_nI hi (by decide)
  unfold wpX_valueWritten
  dsimp only
  rw [nI_clamp (show i < 2 ^ 31 by omega)]
  refine ⟨hin, nm_e ⟨hin, nm_e ⟨hin, nm_e ⟨hin, nm_e ?_⟩⟩⟩⟩
  rcases hok with ⟨e, hx⟩ | ⟨e, hx, hy, hz⟩ | ⟨e, hx, hy, hz⟩ | ⟨e, hx, hy, hz⟩ | ⟨e, hx, hy⟩ | ⟨e, hx, hy⟩ | ⟨e, hx⟩ | ⟨e, hx⟩ | e <;> rw [e] at h hw ⊢
  · rw [td_v0] at h
    exact br_f (by decide) (br_f (by decide) (br_t rfl h))
  · rw [td_v1] at h
    obtain ⟨j, hj, ey⟩ := hy
    obtain ⟨k, hk, ez⟩ := hz
    rw [ey, ez, nI_clamp (by omega), nI_clamp (by omega)] at h
    rw [ey, ez, (td_rd hb hm (p := j) (by omega)).2, (td_rd hb hm (p := k) (by omega)).2]
    exact br_f (by decide) (br_f (by decide) (br_f (by decide) (br_t rfl ⟨(td_rd hb hm (p := j) (by omega)).1, (td_rd hb hm (p := k) (by omega)).1, h⟩)))
  · rw [td_v2] at h
    obtain ⟨j, hj, ey⟩ := hy
    obtain ⟨k, hk, ez⟩ := hz
    rw [ey, ez, nI_clamp (by omega), nI_clamp (by omega)] at h
    rw [ey, ez, (td_rd hb hm (p := j) (by omega)).2, (td_rd hb hm (p := k) (by omega)).2]
    exact br_f (by decide) (br_f (by decide) (br_f (by decide) (br_f (by decide) (br_t rfl ⟨(td_rd hb hm (p := j) (by omega)).1, (td_rd hb hm (p := k) (by omega)).1, h⟩))))
  · rw [td_v3] at h
    obtain ⟨j, hj, ey⟩ := hy
    obtain ⟨k, hk, ez⟩ := hz
    rw [ey, ez, nI_clamp (by omega), nI_clamp (by omega)] at h
    rw [ey, ez, (td_rd hb hm (p := j) (by omega)).2, (td_rd hb hm (p := k) (by omega)).2]
    exact br_f (by decide) (br_f (by decide) (br_f (by decide) (br_f (by decide) (br_f (by decide) (br_t rfl ⟨(td_rd hb hm (p := j) (by omega)).1, (td_rd hb hm (p := k) (by omega)).1, h⟩)))))
  · rw [td_v4] at h
    obtain ⟨c, hc, ec⟩ := td_and7 (m (yo i).toNatClampNeg)
    rw [ec, td_6, nI_clamp (by omega)] at h
    refine br_f (by decide) (br_f (by decide) (br_f (by decide) (br_f (by decide) (br_f (by decide) (br_f (by decide) (br_t rfl (td_Xcn hb hm hy ?_)))))))
    rw [ec, td_6, (td_rd hb hm (p := 6 + c) (by omega)).2]
    exact ⟨(td_rd hb hm (p := 6 + c) (by omega)).1, h⟩
  · rw [td_v5] at h
    obtain ⟨j, hj, ex⟩ := hx
    rw [ex, nI_clamp (by omega)] at h
    rw [ex, (td_rd hb hm (p := j) (by omega)).2]
    exact br_f (by decide) (br_t (by decide) ⟨(td_rd hb hm (p := j) (by omega)).1, h⟩)
  · exact absurd (td_w6 _ _ _) hw
  · exact absurd (td_w7 _ _ _) hw
  · exact absurd (td_w8 _ _ _) hw
theorem td_Xia {post : Int32 → Prop} (hi : i < 20) (hok : td_ok (op i) (xo i) (yo i) (zo i)) (hb : b + 14 ≤ 2814) (hm : ∀ p, p < 14 → va (b + p) = m p)
    (h : post (nI (td_n (op i) (xo i) (yo i) i m))) : wpX_instructionAfter post (ic, sc, nw, op, xo, yo, zo, va, na, wb) (nI i) (nI b) := by
  have hin : vp_in (nI i) 20 := vp_in_nI hi (by decide)
  unfold wpX_instructionAfter
  dsimp only
  rw [nI_clamp (show i < 2 ^ 31 by omega), nI_1 i]
  refine ⟨hin, nm_e ?_⟩
  rcases hok with ⟨e, hx⟩ | ⟨e, hx⟩ | ⟨e, hx⟩ | ⟨e, hx⟩ | ⟨e, hx⟩ | ⟨e, hx⟩ | ⟨e, hx, hy⟩ | ⟨e, hx⟩ | e <;> rw [e] at h ⊢
  · rw [td_n0] at h
    exact br_t (by decide) h
  · rw [td_n1] at h
    exact br_t (by decide) h
  · rw [td_n2] at h
    exact br_t (by decide) h
  · rw [td_n3] at h
    exact br_t (by decide) h
  · rw [td_n4] at h
    exact br_t (by decide) h
  · rw [td_n5] at h
    exact br_t (by decide) h
  · rw [td_n6] at h
    obtain ⟨j, hj, ex⟩ := hx
    rw [ex, nI_clamp (by omega)] at h
    rw [ex, (td_rd hb hm (p := j) (by omega)).2]
    refine br_f (by decide) (br_f (by decide) (br_t rfl ⟨hin, (td_rd hb hm (p := j) (by omega)).1, br_c (fun g => ?_) fun g => ⟨hin, ?_⟩⟩))
    · rw [if_neg (Int32.not_lt.mpr g)] at h
      exact h
    · rw [if_pos (Int32.not_le.mp g), (td_Lpc hy).2] at h
      exact h
  · rw [td_n7, (td_Lpc hx).2] at h
    exact br_f (by decide) (br_f (by decide) (br_f (by decide) (br_t rfl ⟨hin, h⟩)))
  · rw [td_n8] at h
    exact br_f (by decide) (br_f (by decide) (br_f (by decide) (br_f (by decide) (br_t rfl h))))
end
