section
variable {ic sc nw : Int32} {va na wb : Nat → Int32} {cn tm nx hl wv wc : Int32} {op ax ay az vr ce : Nat → Int32} {inp : Int32} {pc : Nat → Nat} {me : Nat → Nat → Int32} {wr : Nat → Int32} {n s T w : Nat}
theorem td_Xls {post : Int32 → Prop} (hB : td_Tab pc me wr T va na wb) (hT2 : T ≤ 200) (q : Int32) (hw : w ≤ T) (h : post (nI (td_last wr q w))) :
    wpX_latestStepThatWrote post (ic, sc, nI w, op, ax, ay, az, va, na, wb) q := by
  have L : ∀ s, s ≤ T → post (nI (td_last wr q s)) → wX_latestStepThatWrote_5 post q ic sc (nI w) op ax ay az va na wb (s + 1) (nI s) := by
    intro s
    induction s with
    | zero =>
      intro _ h
      rw [wX_latestStepThatWrote_5]
      exact br_t (by decide) h
    | succ s ih =>
      intro hs h
      rw [wX_latestStepThatWrote_5]
      dsimp only
      rw [nI_clamp (show s + 1 < 2 ^ 31 by omega), hB.2.2 (s + 1) (by omega) hs]
      rw [td_last] at h
      refine br_f (nI_nle (by omega) (by omega)) ⟨vp_in_nI (by omega) (by decide), br_c (fun e => ?_) fun e => nm_r (pk_m1 s) (ih (by omega) ?_)⟩
      · rw [if_pos e] at h
        exact h
      · rw [if_neg e] at h
        exact h
  unfold wpX_latestStepThatWrote
  exact ⟨w + 1, L w hw h⟩
theorem td_Ylw {post : Int32 → SY → Prop} {x1 x2 q : Int32} (hP : td_Pg n op ax ay az) (hT : td_Tr op ax ay az inp pc me wr) (hR : td_Run n op pc T) (hw : w ≤ T)
    (hv : x1 = 0 → ∀ s wv wc, td_W wr s wv wc → (wv = x2 ↔ wr s = q)) (hc : ¬ x1 = 0 → ∀ s wv wc, td_W wr s wv wc → (wc = x2 ↔ wr s = q))
    (k : ∀ nx' hl' wv' wc' vr' ce', post (nI (td_last wr q w)) (cn, inp, nI w, nx', hl', wv', wc', op, ax, ay, az, vr', ce')) :
    ∀ (d s : Nat) (nx hl wv wc : Int32) (vr ce : Nat → Int32), s + d = w → td_Y op pc me s nx hl vr ce →
      wY_lastWrite_38 post x1 x2 (d + 1) (nI (td_last wr q s)) (nI (s + 1)) cn inp (nI w) nx hl wv wc op ax ay az vr ce := by
  have hT2 := hR.1
  intro d
  induction d with
  | zero =>
    intro s nx hl wv wc vr ce hs hY
    have e : s = w := by omega
    rw [e, wY_lastWrite_38]
    exact br_t (nI_lt (by omega) (by omega)) (k _ _ _ _ _ _)
  | succ d ih =>
    intro s nx hl wv wc vr ce hs hY
    have J : ∀ (z nx' hl' wv' wc' : Int32) (vr' ce' : Nat → Int32), td_Y op pc me (s + 1) nx' hl' vr' ce' → (z = x2 ↔ wr (s + 1) = q) →
        wY_lastWrite_66 post (wY_lastWrite_38 post x1 x2 (d + 1)) x1 x2 (nI (td_last wr q s)) (nI (s + 1)) z cn inp (nI w) nx' hl' wv' wc' op ax ay az vr' ce' := by
      intro z nx' hl' wv' wc' vr' ce' hY' hz
      have h := ih (s + 1) nx' hl' wv' wc' vr' ce' (by omega) hY'
      rw [td_last] at h
      unfold wY_lastWrite_66
      refine br_c (fun e => nm_r (nI_1 (s + 1)) ?_) fun e => nm_r (nI_1 (s + 1)) ?_
      · rw [if_pos (hz.mp e)] at h
        exact h
      · rw [if_neg (fun g => e (hz.mpr g))] at h
        exact h
    rw [wY_lastWrite_38]
    refine br_f (nI_nlt (by omega) (by omega)) (td_Yst hP hT hY (hR.2.1 s (by omega)).1 (hR.2.1 s (by omega)).2 fun nx' hl' wv' wc' vr' ce' hY' hW => ?_)
    exact br_c (fun e => J _ _ _ _ _ _ _ hY' (hv e _ _ _ hW)) (fun e => J _ _ _ _ _ _ _ hY' (hc e _ _ _ hW))
theorem td_YlwV {post : Int32 → SY → Prop} (hP : td_Pg n op ax ay az) (hT : td_Tr op ax ay az inp pc me wr) (hR : td_Run n op pc T) (hw : w ≤ T) {j : Nat} (hj : j < 6)
    (k : ∀ nx' hl' wv' wc' vr' ce', post (nI (td_last wr (nI j) w)) (cn, inp, nI w, nx', hl', wv', wc', op, ax, ay, az, vr', ce')) :
    wpY_lastWrite post (cn, inp, nI w, nx, hl, wv, wc, op, ax, ay, az, vr, ce) 0 (nI j) := by
  unfold wpY_lastWrite
  dsimp only
  refine br_t rfl ?_
  unfold wY_lastWrite_9
  refine br_f (nI_pos (by omega)) (br_t rfl ?_)
  unfold wY_lastWrite_24
  refine br_t (nI_le (b := 5) (by omega) (by decide)) (td_Ybg fun vr' ce' h1 h2 => ⟨w + 1, ?_⟩)
  exact td_Ylw hP hT hR hw (fun _ s wv wc hW => hW.1 j hj) (fun h => absurd rfl h) k w 0 0 0 wv wc vr' ce' (by omega) (td_Y0 hT h1 h2)
theorem td_YlwC {post : Int32 → SY → Prop} (hP : td_Pg n op ax ay az) (hT : td_Tr op ax ay az inp pc me wr) (hR : td_Run n op pc T) (hw : w ≤ T) {j : Nat} (hj : j < 8)
    (k : ∀ nx' hl' wv' wc' vr' ce', post (nI (td_last wr (nI (6 + j)) w)) (cn, inp, nI w, nx', hl', wv', wc', op, ax, ay, az, vr', ce')) :
    wpY_lastWrite post (cn, inp, nI w, nx, hl, wv, wc, op, ax, ay, az, vr, ce) 1 (nI j) := by
  unfold wpY_lastWrite
  dsimp only
  refine br_f (by decide) (br_t rfl ?_)
  unfold wY_lastWrite_9
  refine br_f (nI_pos (by omega)) (br_f (by decide) ?_)
  unfold wY_lastWrite_24
  refine br_t (nI_le (b := 7) (by omega) (by decide)) (td_Ybg fun vr' ce' h1 h2 => ⟨w + 1, ?_⟩)
  exact td_Ylw hP hT hR hw (fun h => absurd h (by decide)) (fun _ s wv wc hW => hW.2 j hj) k w 0 0 0 wv wc vr' ce' (by omega) (td_Y0 hT h1 h2)
theorem td_YlwB {post : Int32 → SY → Prop} {x1 x2 : Int32} (h : ¬ (x1 = 0 ∧ td_V x2) ∧ ¬ (x1 = 1 ∧ td_C x2)) (k : post (-1) (cn, inp, tm, nx, hl, wv, wc, op, ax, ay, az, vr, ce)) :
    wpY_lastWrite post (cn, inp, tm, nx, hl, wv, wc, op, ax, ay, az, vr, ce) x1 x2 := by
  unfold wpY_lastWrite
  dsimp only
  refine br_c (fun h0 => ?_) fun h0 => br_c (fun h1 => ?_) fun _ => k
  · unfold wY_lastWrite_9
    refine br_c (fun _ => k) fun g => br_t h0 ?_
    unfold wY_lastWrite_24
    exact br_f (fun g5 => h.1 ⟨h0, td_V_le.mpr ⟨g, g5⟩⟩) k
  · unfold wY_lastWrite_9
    refine br_c (fun _ => k) fun g => br_f h0 ?_
    unfold wY_lastWrite_24
    exact br_f (fun g7 => h.2 ⟨h1, td_C_le.mpr ⟨g, g7⟩⟩) k
/-- both scan up from the time s -/
theorem td_up (hP : td_Pg n op ax ay az) (hT : td_Tr op ax ay az inp pc me wr) (hR : td_Run n op pc T) (hB : td_Tab pc me wr T va na wb) (hw : w ≤ T) {j : Nat} (hj : j < 20) :
    ∀ d s : Nat, s + d = T + 1 → ∃ (r : Int32) (w' : Nat), w' ≤ T ∧
      (∀ post : Int32 → SX → Prop, post r (nI n, nI T, nI w', op, ax, ay, az, va, na, wb) → wX_runTo_16 post (nI j) (nI n) (nI T) (nI w) op ax ay az va na wb (d + 1) (nI s)) ∧
      (∀ (post : Int32 → SY → Prop) (nx hl wv wc : Int32) (vr ce : Nat → Int32), (∀ nx' hl' wv' wc' vr' ce', post r (nI n, inp, nI w', nx', hl', wv', wc', op, ax, ay, az, vr', ce')) →
        wY_runTo_22 post (nI j) (nI T) (d + 1) (nI s) (nI n) inp (nI w) nx hl wv wc op ax ay az vr ce) := by
  have hT2 := hR.1
  intro d
  induction d with
  | zero =>
    intro s hs
    refine ⟨-3, w, hw, fun post h => ?_, fun post nx hl wv wc vr ce h => ?_⟩
    · rw [wX_runTo_16]
      exact br_t (nI_lt (by omega) (by omega)) h
    · rw [wY_runTo_22]
      exact br_t (nI_lt (by omega) (by omega)) (h _ _ _ _ _ _)
  | succ d ih =>
    intro s hs
    have hp := td_pc20 hP hT hR s (by omega)
    have hx := hB.1 s (by omega)
    have hin : vp_in (nI s) 201 := vp_in_nI (by omega) (by decide)
    by_cases e : nI (pc s) = nI j
    · refine ⟨nI s, s, by omega, fun post h => ?_, fun post nx hl wv wc vr ce h => ?_⟩
      · rw [wX_runTo_16]
        dsimp only
        rw [nI_clamp (show s < 2 ^ 31 by omega), hx]
        exact br_f (nI_nlt (by omega) (by omega)) ⟨hin, br_t e h⟩
      · rw [wY_runTo_22]
        refine br_f (nI_nlt (by omega) (by omega)) (td_Ysta hP hT hR (by omega) fun nx' hl' wv' wc' vr' ce' hY => ?_)
        exact br_t (hY.1.trans e) (h _ _ _ _ _ _)
    · obtain ⟨r, w', hw', hX, hY⟩ := ih (s + 1) (by omega)
      refine ⟨r, w', hw', fun post h => ?_, fun post nx hl wv wc vr ce h => ?_⟩
      · rw [wX_runTo_16]
        dsimp only
        rw [nI_clamp (show s < 2 ^ 31 by omega), hx]
        exact br_f (nI_nlt (by omega) (by omega)) ⟨hin, br_f e (nm_r (nI_1 s) (hX post h))⟩
      · rw [wY_runTo_22]
        refine br_f (nI_nlt (by omega) (by omega)) (td_Ysta hP hT hR (by omega) fun nx' hl' wv' wc' vr' ce' hY' => ?_)
        exact br_f (fun z => e (hY'.1.symm.trans z)) (nm_r (nI_1 s) (hY post _ _ _ _ _ _ h))
/-- both scan down from the time s - 1 -/
theorem td_dn (hP : td_Pg n op ax ay az) (hT : td_Tr op ax ay az inp pc me wr) (hR : td_Run n op pc T) (hB : td_Tab pc me wr T va na wb) (hw : w ≤ T) {j : Nat} (hj : j < 20) :
    ∀ s : Nat, s ≤ T → ∃ (r : Int32) (w' : Nat), w' ≤ T ∧
      (∀ post : Int32 → SX → Prop, post r (nI n, nI T, nI w', op, ax, ay, az, va, na, wb) → wX_backTo_16 post (nI j) (nI n) (nI T) (nI w) op ax ay az va na wb (s + 1) (nI s - 1)) ∧
      (∀ (post : Int32 → SY → Prop) (nx hl wv wc : Int32) (vr ce : Nat → Int32), (∀ nx' hl' wv' wc' vr' ce', post r (nI n, inp, nI w', nx', hl', wv', wc', op, ax, ay, az, vr', ce')) →
        wY_backTo_17 post (nI j) (s + 1) (nI s - 1) (nI n) inp (nI w) nx hl wv wc op ax ay az vr ce) := by
  have hT2 := hR.1
  intro s
  induction s with
  | zero =>
    intro _
    refine ⟨-3, w, hw, fun post h => ?_, fun post nx hl wv wc vr ce h => ?_⟩
    · rw [wX_backTo_16]
      exact br_t (by decide) h
    · rw [wY_backTo_17]
      exact br_t (by decide) (h _ _ _ _ _ _)
  | succ s ih =>
    intro hs
    have hp := td_pc20 hP hT hR s (by omega)
    have hx := hB.1 s (by omega)
    have hin : vp_in (nI s) 201 := vp_in_nI (by omega) (by decide)
    have hm : nI s + (-1) = nI s - 1 := (Int32.sub_eq_add_neg _ _).symm
    rw [nI_pred]
    by_cases e : nI (pc s) = nI j
    · refine ⟨nI s, s, by omega, fun post h => ?_, fun post nx hl wv wc vr ce h => ?_⟩
      · rw [wX_backTo_16]
        dsimp only
        rw [nI_clamp (show s < 2 ^ 31 by omega), hx]
        exact br_f (nI_pos (by omega)) ⟨hin, br_t e h⟩
      · rw [wY_backTo_17]
        refine br_f (nI_pos (by omega)) (td_Ysta hP hT hR (by omega) fun nx' hl' wv' wc' vr' ce' hY => ?_)
        exact br_t (hY.1.trans e) (h _ _ _ _ _ _)
    · obtain ⟨r, w', hw', hX, hY⟩ := ih (by omega)
      refine ⟨r, w', hw', fun post h => ?_, fun post nx hl wv wc vr ce h => ?_⟩
      · rw [wX_backTo_16]
        dsimp only
        rw [nI_clamp (show s < 2 ^ 31 by omega), hx]
        exact br_f (nI_pos (by omega)) ⟨hin, br_f e (nm_r hm (hX post h))⟩
      · rw [wY_backTo_17]
        refine br_f (nI_pos (by omega)) (td_Ysta hP hT hR (by omega) fun nx' hl' wv' wc' vr' ce' hY' => ?_)
        exact br_f (fun z => e (hY'.1.symm.trans z)) (nm_r hm (hY post _ _ _ _ _ _ h))
end
