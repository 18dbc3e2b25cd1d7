section
variable {cn inp' tm nx hl wv wc : Int32} {op ax ay az vr ce : Nat → Int32} {inp : Int32} {pc : Nat → Nat} {me : Nat → Nat → Int32} {wr : Nat → Int32} {n s T : Nat}
theorem td_Yset {post : SY → Prop} {a : Nat} {val : Int32} (ha : a < 6) (h : post (cn, inp', tm, nx, hl, nI a, wc, op, ax, ay, az, upd vr a val, ce)) :
    wpY_setVariable post (cn, inp', tm, nx, hl, wv, wc, op, ax, ay, az, vr, ce) (nI a) val := by
  unfold wpY_setVariable
  dsimp only
  rw [nI_clamp (by omega)]
  exact ⟨vp_in_nI ha (by decide), nm_e h⟩
theorem td_Yst {post : SY → Prop} (hP : td_Pg n op ax ay az) (hT : td_Tr op ax ay az inp pc me wr) (hY : td_Y op pc me s nx hl vr ce) (hh : ¬ td_ha op pc s) (hpc : pc s < n)
    (k : ∀ nx' hl' wv' wc' vr' ce', td_Y op pc me (s + 1) nx' hl' vr' ce' → td_W wr (s + 1) wv' wc' → post (cn, inp', tm, nx', hl', wv', wc', op, ax, ay, az, vr', ce')) :
    wpY_step post (cn, inp', tm, nx, hl, wv, wc, op, ax, ay, az, vr, ce) := by
  have hn := hP.1
  have hok := hP.2 _ hpc
  have y2 := hY.2.1
  have y3 := hY.2.2.1
  have h0 := hY.2.2.2.2 hh
  have hin : vp_in (nI (pc s)) 20 := vp_in_nI (by omega) (by decide)
  obtain rfl := hY.1
  unfold wpY_step
  dsimp only
  rw [nI_clamp (show pc s < 2 ^ 31 by omega)]
  refine ⟨hin, nm_e ⟨hin, nm_e (nm_e ⟨hin, ?_⟩)⟩⟩
  rcases hok with ⟨e, hx⟩ | ⟨e, hx, hy, hz⟩ | ⟨e, hx, hy, hz⟩ | ⟨e, hx, hy, hz⟩ | ⟨e, hx, hy⟩ | ⟨e, hx, hy⟩ | ⟨e, hx, hy⟩ | ⟨e, hx⟩ | e <;> rw [e]
  · obtain ⟨a, ha, ex⟩ := hx
    rw [ex]
    obtain ⟨g1, g2⟩ := td_Yv (val := ay (pc s)) hT hY hh ha (by rw [e]; decide) (by rw [e, td_w0]; exact ex) (by rw [e, td_v0]) (by rw [e, td_n0])
    refine br_t rfl (td_Yset ha ?_)
    dsimp only
    exact k _ _ _ _ _ _ g1 g2
  · obtain ⟨a, ha, ex⟩ := hx
    obtain ⟨j, hj, ey⟩ := hy
    obtain ⟨l, hl', ez⟩ := hz
    rw [ex, ey, ez, nI_clamp (show j < 2 ^ 31 by omega), nI_clamp (show l < 2 ^ 31 by omega)]
    obtain ⟨g1, g2⟩ := td_Yv (val := vr j + vr l) hT hY hh ha (by rw [e]; decide) (by rw [e, td_w1]; exact ex)
      (by rw [e, td_v1, ey, ez, nI_clamp (show j < 2 ^ 31 by omega), nI_clamp (show l < 2 ^ 31 by omega), y2 j hj, y2 l hl']) (by rw [e, td_n1])
    refine br_f (by decide) ⟨hin, br_t rfl ⟨vp_in_nI hj (by decide), hin, vp_in_nI hl' (by decide), td_Yset ha ?_⟩⟩
    dsimp only
    exact k _ _ _ _ _ _ g1 g2
  · obtain ⟨a, ha, ex⟩ := hx
    obtain ⟨j, hj, ey⟩ := hy
    obtain ⟨l, hl', ez⟩ := hz
    rw [ex, ey, ez, nI_clamp (show j < 2 ^ 31 by omega), nI_clamp (show l < 2 ^ 31 by omega)]
    obtain ⟨g1, g2⟩ := td_Yv (val := vr j - vr l) hT hY hh ha (by rw [e]; decide) (by rw [e, td_w2]; exact ex)
      (by rw [e, td_v2, ey, ez, nI_clamp (show j < 2 ^ 31 by omega), nI_clamp (show l < 2 ^ 31 by omega), y2 j hj, y2 l hl']) (by rw [e, td_n2])
    refine br_f (by decide) ⟨hin, br_f (by decide) ⟨hin, br_t rfl ⟨vp_in_nI hj (by decide), hin, vp_in_nI hl' (by decide), td_Yset ha ?_⟩⟩⟩
    dsimp only
    exact k _ _ _ _ _ _ g1 g2
  · obtain ⟨a, ha, ex⟩ := hx
    obtain ⟨j, hj, ey⟩ := hy
    obtain ⟨l, hl', ez⟩ := hz
    rw [ex, ey, ez, nI_clamp (show j < 2 ^ 31 by omega), nI_clamp (show l < 2 ^ 31 by omega)]
    obtain ⟨g1, g2⟩ := td_Yv (val := vr j * vr l) hT hY hh ha (by rw [e]; decide) (by rw [e, td_w3]; exact ex)
      (by rw [e, td_v3, ey, ez, nI_clamp (show j < 2 ^ 31 by omega), nI_clamp (show l < 2 ^ 31 by omega), y2 j hj, y2 l hl']) (by rw [e, td_n3])
    refine br_f (by decide) ⟨hin, br_f (by decide) ⟨hin, br_f (by decide) ⟨hin, br_t rfl ⟨vp_in_nI hj (by decide), hin, vp_in_nI hl' (by decide), td_Yset ha ?_⟩⟩⟩⟩
    dsimp only
    exact k _ _ _ _ _ _ g1 g2
  · obtain ⟨a, ha, ex⟩ := hx
    obtain ⟨j, hj, ey⟩ := hy
    obtain ⟨c, hc, ec⟩ := td_and7 (me s j)
    rw [ex, ey, nI_clamp (show j < 2 ^ 31 by omega), y2 j hj, ec, nI_clamp (show c < 2 ^ 31 by omega)]
    obtain ⟨g1, g2⟩ := td_Yv (val := ce c) hT hY hh ha (by rw [e]; decide) (by rw [e, td_w4]; exact ex)
      (by rw [e, td_v4, ey, nI_clamp (show j < 2 ^ 31 by omega), ec, td_6, nI_clamp (show 6 + c < 2 ^ 31 by omega), y3 c hc]) (by rw [e, td_n4])
    refine br_f (by decide) ⟨hin, br_f (by decide) ⟨hin, br_f (by decide) ⟨hin, br_f (by decide) ⟨hin, br_t rfl ⟨vp_in_nI hj (by decide), vp_in_nI hc (by decide), td_Yset ha ?_⟩⟩⟩⟩⟩
    dsimp only
    exact k _ _ _ _ _ _ g1 g2
  · obtain ⟨a, ha, ex⟩ := hx
    obtain ⟨j, hj, ey⟩ := hy
    obtain ⟨c, hc, ec⟩ := td_and7 (me s j)
    rw [ex, ey, nI_clamp (show j < 2 ^ 31 by omega), nI_clamp (show a < 2 ^ 31 by omega), y2 j hj, ec]
    obtain ⟨g1, g2⟩ := td_Yc (val := vr a) hT hY hh hc (by rw [e]; decide) (by rw [e, td_w5, ey, nI_clamp (show j < 2 ^ 31 by omega), ec, td_6])
      (by rw [e, td_v5, ex, nI_clamp (show a < 2 ^ 31 by omega), y2 a ha]) (by rw [e, td_n5])
    refine br_f (by decide) ⟨hin, br_f (by decide) ⟨hin, br_f (by decide) ⟨hin, br_f (by decide) ⟨hin, br_f (by decide) ⟨hin, br_t rfl ⟨vp_in_nI hj (by decide), nm_e ⟨vp_in_nI ha (by decide), vp_in_nI hc (by decide), nm_r (e' := upd ce c (vr a)) (by rw [nI_clamp (show c < 2 ^ 31 by omega)]) (k _ _ _ _ _ _ g1 g2)⟩⟩⟩⟩⟩⟩⟩
  · obtain ⟨a, ha, ex⟩ := hx
    rw [ex, nI_clamp (show a < 2 ^ 31 by omega)]
    refine br_f (by decide) ⟨hin, br_f (by decide) ⟨hin, br_f (by decide) ⟨hin, br_f (by decide) ⟨hin, br_f (by decide) ⟨hin, br_f (by decide) ⟨hin, br_t rfl ⟨vp_in_nI ha (by decide), br_c (fun g => ?_) fun g => ?_⟩⟩⟩⟩⟩⟩⟩
    · obtain ⟨g1, g2⟩ := td_Yn (nx' := nI (pc s) + 1) (hl' := hl) hT hY (fun z => absurd (e.symm.trans z) (by decide)) (fun _ => h0) (by rw [e, td_w6])
        (by rw [e, td_n6, ex, nI_clamp (show a < 2 ^ 31 by omega), ← y2 a ha, if_neg (Int32.not_lt.mpr g), nI_1])
      unfold wY_step_266
      rw [nI_clamp (show pc s < 2 ^ 31 by omega), e]
      exact ⟨hin, br_f (by decide) ⟨hin, br_f (by decide) (k _ _ _ _ _ _ g1 g2)⟩⟩
    · obtain ⟨g1, g2⟩ := td_Yn (nx' := ay (pc s)) (hl' := hl) hT hY (fun z => absurd (e.symm.trans z) (by decide)) (fun _ => h0) (by rw [e, td_w6])
        (by rw [e, td_n6, ex, nI_clamp (show a < 2 ^ 31 by omega), ← y2 a ha, if_pos (Int32.not_le.mp g), (td_Lpc hy).2])
      exact k _ _ _ _ _ _ g1 g2
  · obtain ⟨g1, g2⟩ := td_Yn (nx' := ax (pc s)) (hl' := hl) hT hY (fun z => absurd (e.symm.trans z) (by decide)) (fun _ => h0) (by rw [e, td_w7]) (by rw [e, td_n7, (td_Lpc hx).2])
    refine br_f (by decide) ⟨hin, br_f (by decide) ⟨hin, br_f (by decide) ⟨hin, br_f (by decide) ⟨hin, br_f (by decide) ⟨hin, br_f (by decide) ⟨hin, br_f (by decide) ?_⟩⟩⟩⟩⟩⟩
    unfold wY_step_266
    rw [nI_clamp (show pc s < 2 ^ 31 by omega), e]
    exact ⟨hin, br_t rfl (k _ _ _ _ _ _ g1 g2)⟩
  · obtain ⟨g1, g2⟩ := td_Yn (nx' := nI (pc s)) (hl' := 1) hT hY (fun _ => rfl) (fun z => absurd e z) (by rw [e, td_w8]) (by rw [e, td_n8])
    refine br_f (by decide) ⟨hin, br_f (by decide) ⟨hin, br_f (by decide) ⟨hin, br_f (by decide) ⟨hin, br_f (by decide) ⟨hin, br_f (by decide) ⟨hin, br_f (by decide) ?_⟩⟩⟩⟩⟩⟩
    unfold wY_step_266
    rw [nI_clamp (show pc s < 2 ^ 31 by omega), e]
    exact ⟨hin, br_f (by decide) ⟨hin, br_t rfl (k _ _ _ _ _ _ g1 g2)⟩⟩
theorem td_Ybg {post : SY → Prop} (k : ∀ vr' ce', (∀ p, p < 6 → vr' p = if p = 5 then inp else 0) → (∀ c, c < 8 → ce' c = 0) → post (cn, inp, tm, 0, 0, wv, wc, op, ax, ay, az, vr', ce')) :
    wpY_begin post (cn, inp, tm, nx, hl, wv, wc, op, ax, ay, az, vr, ce) := by
  unfold wpY_begin
  dsimp only
  refine pk_loop (fun n j a => wY_begin_2 post cn inp tm nx hl wv wc n (nI j) op ax ay az a ce) (fun j a => ∀ p, p < j → a p = 0) 5 0 vr (by omega) (fun p hp => absurd hp (by omega)) ?_ ?_
  · intro n' a h
    rw [wY_begin_2]
    refine br_t (by decide) (nm_e ?_)
    refine pk_loop (fun n j c => wY_begin_32 post cn inp tm nx hl wv wc n (nI j) op ax ay az (upd a 5 inp) c) (fun j c => ∀ p, p < j → c p = 0) 8 0 ce (by omega) (fun p hp => absurd hp (by omega)) ?_ ?_
    · intro n' c hc
      rw [wY_begin_32]
      refine br_t (by decide) (k _ _ (fun p hp => ?_) hc)
      by_cases e : p = 5
      · rw [e, pk_us, if_pos rfl]
      · rw [pk_un e, if_neg e]
        exact h p (by omega)
    · intro n' j c hj hc ih
      rw [wY_begin_32]
      dsimp only
      rw [nI_clamp (show j < 2 ^ 31 by omega)]
      refine br_f (nI_ge (b := 8) hj (by decide)) ⟨vp_in_nI hj (by decide), nm_e (nm_r (nI_1 j) (ih _ fun p hp => ?_))⟩
      by_cases e : p = j
      · rw [e, pk_us]
      · rw [pk_un e]
        exact hc p (by omega)
  · intro n' j a hj h ih
    rw [wY_begin_2]
    dsimp only
    rw [nI_clamp (show j < 2 ^ 31 by omega)]
    refine br_f (nI_ge (b := 5) hj (by decide)) ⟨vp_in_nI (by omega) (by decide), nm_e (nm_r (nI_1 j) (ih _ fun p hp => ?_))⟩
    by_cases e : p = j
    · rw [e, pk_us]
    · rw [pk_un e]
      exact h p (by omega)
theorem td_Y0 (hT : td_Tr op ax ay az inp pc me wr) (hv : ∀ p, p < 6 → vr p = if p = 5 then inp else 0) (hc : ∀ c, c < 8 → ce c = 0) : td_Y op pc me 0 0 0 vr ce :=
  ⟨by rw [hT.1, nI_0], fun p hp => by rw [hv p hp, hT.2.1], fun c h => by rw [hc c h, hT.2.1, if_neg (by omega)], fun h => h.elim, fun _ => rfl⟩
theorem td_Ysta {post : SY → Prop} (hP : td_Pg n op ax ay az) (hT : td_Tr op ax ay az inp pc me wr) (hR : td_Run n op pc T) {t : Nat} (ht : t ≤ T)
    (k : ∀ nx' hl' wv' wc' vr' ce', td_Y op pc me t nx' hl' vr' ce' → post (cn, inp, tm, nx', hl', wv', wc', op, ax, ay, az, vr', ce')) :
    wpY_state post (cn, inp, tm, nx, hl, wv, wc, op, ax, ay, az, vr, ce) (nI t) := by
  have hT2 := hR.1
  have L : ∀ (d s : Nat) (nx hl wv wc : Int32) (vr ce : Nat → Int32), s + d = t → td_Y op pc me s nx hl vr ce → wY_state_6 post (nI t) (d + 1) (nI s) cn inp tm nx hl wv wc op ax ay az vr ce := by
    intro d
    induction d with
    | zero =>
      intro s nx hl wv wc vr ce hs hY
      have e : s = t := by omega
      rw [e] at hY ⊢
      rw [wY_state_6]
      exact br_t (Int32.le_refl _) (k _ _ _ _ _ _ hY)
    | succ d ih =>
      intro s nx hl wv wc vr ce hs hY
      rw [wY_state_6]
      refine br_f (nI_ge (by omega) (by omega)) (td_Yst hP hT hY (hR.2.1 s (by omega)).1 (hR.2.1 s (by omega)).2 fun nx' hl' wv' wc' vr' ce' hY' _ => ?_)
      exact nm_r (nI_1 s) (ih (s + 1) _ _ _ _ _ _ (by omega) hY')
  unfold wpY_state
  dsimp only
  refine td_Ybg fun vr' ce' hv hc => ?_
  exact ⟨t + 1, L t 0 0 0 wv wc vr' ce' (by omega) (td_Y0 hT hv hc)⟩
theorem td_Yen {post : Int32 → Prop} (hn : n ≤ 20) (h20 : pc s ≤ 20) (hY : td_Y op pc me s nx hl vr ce) (h1 : td_ha op pc s ∨ n ≤ pc s → post 1) (h0 : ¬ td_ha op pc s → pc s < n → post 0) :
    wpY_ended post (nI n, inp', tm, nx, hl, wv, wc, op, ax, ay, az, vr, ce) := by
  unfold wpY_ended
  dsimp only
  by_cases h : td_ha op pc s
  · rw [hY.2.2.2.1 h]
    exact br_f (by decide) (h1 (Or.inl h))
  · rw [hY.2.2.2.2 h]
    exact br_t rfl (pk_lt (pc s) n (fun g => h0 h g) (fun g => h1 (Or.inr g)) hY.1 rfl (by omega) (by omega))
theorem td_Ysts {post : Int32 → SY → Prop} (hP : td_Pg n op ax ay az) (hT : td_Tr op ax ay az inp pc me wr) (hR : td_Run n op pc T)
    (k : ∀ nx' hl' wv' wc' vr' ce', post (nI T) (nI n, inp, tm, nx', hl', wv', wc', op, ax, ay, az, vr', ce')) :
    wpY_steps post (nI n, inp, tm, nx, hl, wv, wc, op, ax, ay, az, vr, ce) := by
  have hT2 := hR.1
  have hn := hP.1
  have L : ∀ (d s : Nat) (nx hl wv wc : Int32) (vr ce : Nat → Int32), s + d = T → td_Y op pc me s nx hl vr ce → wY_steps_8 post (d + 1) (nI s) (nI s) (nI n) inp tm nx hl wv wc op ax ay az vr ce := by
    intro d
    induction d with
    | zero =>
      intro s nx hl wv wc vr ce hs hY
      have e : s = T := by omega
      rw [e] at hY ⊢
      rw [wY_steps_8]
      refine pk_le 200 T (fun h => k _ _ _ _ _ _) (fun h => td_Yen hn (td_pc20 hP hT hR T (Nat.le_refl T)) hY (fun _ => br_f (by decide) (k _ _ _ _ _ _)) (fun g1 g2 => ?_)) rfl rfl (by omega) (by omega)
      rcases hR.2.2 with g | g | g
      · omega
      · exact absurd g g1
      · omega
    | succ d ih =>
      intro s nx hl wv wc vr ce hs hY
      obtain ⟨r1, r2⟩ := hR.2.1 s (by omega)
      rw [wY_steps_8]
      refine br_f (nI_ge (b := 200) (by omega) (by decide)) (td_Yen hn (by omega) hY (fun g => ?_) (fun _ _ => br_t rfl (td_Yst hP hT hY r1 r2 fun nx' hl' wv' wc' vr' ce' hY' _ => ?_)))
      · rcases g with g | g
        · exact absurd g r1
        · omega
      · exact nm_r (nI_1 s) (nm_r (nI_1 s) (ih (s + 1) _ _ _ _ _ _ (by omega) hY'))
  unfold wpY_steps
  dsimp only
  refine td_Ybg fun vr' ce' hv hc => ?_
  exact ⟨T + 1, L T 0 0 0 wv wc vr' ce' (by omega) (td_Y0 hT hv hc)⟩
end
