/-- both keep the program (n instructions), the input and the current time w; the component's tables hold the execution, which takes T steps -/
def i_Rel (k : Nat) (u : SX) (v : SY) : Prop :=
  ∃ (n T w : Nat) (op ax ay az va na wb : Nat → Int32) (inp : Int32) (pc : Nat → Nat) (me : Nat → Nat → Int32) (wr : Nat → Int32) (nx hl wv wc : Int32) (vr ce : Nat → Int32),
    u = (nI n, nI T, nI w, op, ax, ay, az, va, na, wb) ∧ v = (nI n, inp, nI w, nx, hl, wv, wc, op, ax, ay, az, vr, ce) ∧
    td_Pg n op ax ay az ∧ td_Tr op ax ay az inp pc me wr ∧ td_Run n op pc T ∧ td_Tab pc me wr T va na wb ∧ w ≤ T
theorem td_mk {k n T w : Nat} {op ax ay az va na wb : Nat → Int32} {inp : Int32} {pc : Nat → Nat} {me : Nat → Nat → Int32} {wr : Nat → Int32} {nx hl wv wc : Int32} {vr ce : Nat → Int32}
    (hP : td_Pg n op ax ay az) (hT : td_Tr op ax ay az inp pc me wr) (hR : td_Run n op pc T) (hB : td_Tab pc me wr T va na wb) (hw : w ≤ T) :
    i_Rel k (nI n, nI T, nI w, op, ax, ay, az, va, na, wb) (nI n, inp, nI w, nx, hl, wv, wc, op, ax, ay, az, vr, ce) :=
  ⟨n, T, w, op, ax, ay, az, va, na, wb, inp, pc, me, wr, nx, hl, wv, wc, vr, ce, rfl, rfl, hP, hT, hR, hB, hw⟩
theorem i_up {k : Nat} {u : SX} {v : SY} (h : i_Rel k u v) : i_Rel (k + 5) u v := h
theorem i_vc0 : wpX_init (fun u => wpY_init (fun v => i_Rel 0 u v)) := by
  obtain ⟨pc, me, wr, hT⟩ := td_TrE (fun _ => 0) (fun _ => 0) (fun _ => 0) (fun _ => 0) 0
  refine td_mk (k := 0) (n := 0) (T := 0) (w := 0) ⟨by omega, fun i hi => absurd hi (by omega)⟩ hT ⟨by omega, fun t ht => absurd ht (by omega), Or.inr (Or.inr (Nat.zero_le _))⟩
    ⟨fun t ht => ?_, fun t ht p hp => ?_, fun t h0 ht => absurd ht (by omega)⟩ (Nat.le_refl 0)
  · have e : t = 0 := by omega
    rw [e, hT.1, nI_0]
  · have e : t = 0 := by omega
    rw [e, hT.2.1]
    split <;> rfl
theorem i_vc_emit {k : Nat} {u : SX} {v : SY} (I : i_Rel k u v) (hk : k + 5 ≤ 2560) (v1 : Int32) (v2 : Int32) (v3 : Int32) (v4 : Int32) : wpX_emit (fun r u' => wpY_emit (fun r' v' => r' = r ∧ i_Rel (k + 5) u' v') v v1 v2 v3 v4) u v1 v2 v3 v4 := by
  obtain ⟨n, T, w, op, ax, ay, az, va, na, wb, inp, pc, me, wr, nx, hl, wv, wc, vr, ce, rfl, rfl, hP, hT, hR, hB, hw⟩ := I
  have hn := hP.1
  have hT2 := hR.1
  have h0 : na 0 = 0 := by rw [hB.1 0 (by omega), hT.1, nI_0]
  have hv : ∀ p, p < 14 → va p = if p = 5 then inp else 0 := fun p hp => by
    rw [← hT.2.1 p, ← hB.2.1 0 (by omega) p hp, Nat.zero_mul, Nat.zero_add]
  unfold wpX_emit
  dsimp only
  refine pk_lt n 20 (fun h => ?_) (fun h => ?_) rfl rfl (by omega) (by decide)
  · have hin : vp_in (nI n) 20 := vp_in_nI h (by decide)
    have hne : ¬ nI n = 20 := fun e => absurd ((nI_eq (a := n) (b := 20) (by omega) (by decide)).mp e) (by omega)
    refine td_Xins (fun ok => br_f (by decide) ?_) (fun ok => br_t rfl ?_)
    · rw [nI_clamp (show n < 2 ^ 31 by omega)]
      refine ⟨hin, nm_e ⟨hin, nm_e ⟨hin, nm_e ⟨hin, nm_e (nm_r (nI_1 n) ?_)⟩⟩⟩⟩
      have hP' : td_Pg (n + 1) (upd op n v1) (upd ax n v2) (upd ay n v3) (upd az n v4) := by
        refine ⟨by omega, fun i hi => ?_⟩
        by_cases e : i = n
        · rw [e, pk_us, pk_us, pk_us, pk_us]
          exact ok
        · rw [pk_un e, pk_un e, pk_un e, pk_un e]
          exact hP.2 i (by omega)
      refine td_Xex (inp := inp) hP' h0 hv fun T' pc' me' wr' va' na' wb' hT' hR' hB' => ?_
      unfold wpY_emit
      dsimp only
      refine br_f hne (td_Yfit (fun _ => br_f (by decide) ?_) (fun g => absurd ok g))
      rw [nI_clamp (show n < 2 ^ 31 by omega)]
      exact ⟨hin, nm_e ⟨hin, nm_e ⟨hin, nm_e ⟨hin, nm_e (nm_r (nI_1 n) ⟨rfl, td_mk (w := 0) hP' hT' hR' hB' (Nat.zero_le _)⟩)⟩⟩⟩⟩
    · unfold wpY_emit
      dsimp only
      exact br_f hne (td_Yfit (fun g => absurd g ok) (fun _ => br_t rfl ⟨rfl, td_mk hP hT hR hB hw⟩))
  · have e : n = 20 := by omega
    unfold wpY_emit
    dsimp only
    exact br_t (by rw [e]; rfl) ⟨rfl, td_mk hP hT hR hB hw⟩
theorem i_vc_input {k : Nat} {u : SX} {v : SY} (I : i_Rel k u v) (hk : k + 5 ≤ 2560) (v1 : Int32) : wpX_input (fun r u' => wpY_input (fun r' v' => r' = r ∧ i_Rel (k + 5) u' v') v v1) u v1 := by
  obtain ⟨n, T, w, op, ax, ay, az, va, na, wb, inp, pc, me, wr, nx, hl, wv, wc, vr, ce, rfl, rfl, hP, hT, hR, hB, hw⟩ := I
  have hn := hP.1
  have hT2 := hR.1
  have h0 : na 0 = 0 := by rw [hB.1 0 (by omega), hT.1, nI_0]
  have hv : ∀ p, p < 14 → upd va 5 v1 p = if p = 5 then v1 else 0 := fun p hp => by
    by_cases e : p = 5
    · rw [e, pk_us, if_pos rfl]
    · have h := hB.2.1 0 (by omega) p hp
      rw [hT.2.1 p, if_neg e, Nat.zero_mul, Nat.zero_add] at h
      rw [pk_un e, if_neg e, h]
  unfold wpX_input
  dsimp only
  refine nm_e (td_Xex (inp := v1) hP h0 hv fun T' pc' me' wr' va' na' wb' hT' hR' hB' => ?_)
  unfold wpY_input
  dsimp only
  exact td_Ysts hP hT' hR' fun nx' hl' wv' wc' vr' ce' => ⟨rfl, td_mk (w := 0) hP hT' hR' hB' (Nat.zero_le _)⟩
theorem i_vc_steps {k : Nat} {u : SX} {v : SY} (I : i_Rel k u v) (hk : k + 5 ≤ 2560) : wpX_steps (fun r => wpY_steps (fun r' v' => r' = r ∧ i_Rel (k + 5) u v') v) u := by
  obtain ⟨n, T, w, op, ax, ay, az, va, na, wb, inp, pc, me, wr, nx, hl, wv, wc, vr, ce, rfl, rfl, hP, hT, hR, hB, hw⟩ := I
  have hn := hP.1
  have hT2 := hR.1
  unfold wpX_steps
  exact td_Ysts hP hT hR fun nx' hl' wv' wc' vr' ce' => ⟨rfl, td_mk hP hT hR hB hw⟩
theorem i_vc_goTo {k : Nat} {u : SX} {v : SY} (I : i_Rel k u v) (hk : k + 5 ≤ 2560) (v1 : Int32) : wpX_goTo (fun r u' => wpY_goTo (fun r' v' => r' = r ∧ i_Rel (k + 5) u' v') v v1) u v1 := by
  obtain ⟨n, T, w, op, ax, ay, az, va, na, wb, inp, pc, me, wr, nx, hl, wv, wc, vr, ce, rfl, rfl, hP, hT, hR, hB, hw⟩ := I
  have hn := hP.1
  have hT2 := hR.1
  unfold wpX_goTo
  dsimp only
  refine br_c (fun h => ?_) fun h => ?_
  · unfold wpY_goTo
    exact br_t h ⟨rfl, td_mk hP hT hR hB hw⟩
  · obtain ⟨t, ht, rfl⟩ := nI_of h
    refine pk_le t T (fun g => ?_) (fun g => ?_) rfl rfl ht (by omega)
    · rw [nI_clamp ht, hB.1 t g]
      refine ⟨vp_in_nI (by omega) (by decide), ?_⟩
      unfold wpY_goTo
      dsimp only
      refine br_f h (td_Ysts hP hT hR fun nx' hl' wv' wc' vr' ce' => ?_)
      exact br_t (nI_le g (by omega)) (td_Ysta hP hT hR g fun nx2 hl2 wv2 wc2 vr2 ce2 hY => ⟨hY.1, td_mk hP hT hR hB g⟩)
    · unfold wpY_goTo
      dsimp only
      refine br_f h (td_Ysts hP hT hR fun nx' hl' wv' wc' vr' ce' => ?_)
      exact br_f (nI_ge g ht) ⟨rfl, td_mk hP hT hR hB hw⟩
theorem i_vc_time {k : Nat} {u : SX} {v : SY} (I : i_Rel k u v) (hk : k + 5 ≤ 2560) : wpX_time (fun r => wpY_time (fun r' => r' = r ∧ i_Rel (k + 5) u v) v) u := by
  obtain ⟨n, T, w, op, ax, ay, az, va, na, wb, inp, pc, me, wr, nx, hl, wv, wc, vr, ce, rfl, rfl, hP, hT, hR, hB, hw⟩ := I
  have hn := hP.1
  have hT2 := hR.1
  unfold wpX_time wpY_time
  exact ⟨rfl, td_mk hP hT hR hB hw⟩
theorem i_vc_variable {k : Nat} {u : SX} {v : SY} (I : i_Rel k u v) (hk : k + 5 ≤ 2560) (v1 : Int32) : wpX_variable (fun r => wpY_variable (fun r' v' => r' = r ∧ i_Rel (k + 5) u v') v v1) u v1 := by
  obtain ⟨n, T, w, op, ax, ay, az, va, na, wb, inp, pc, me, wr, nx, hl, wv, wc, vr, ce, rfl, rfl, hP, hT, hR, hB, hw⟩ := I
  have hn := hP.1
  have hT2 := hR.1
  unfold wpX_variable
  dsimp only
  refine td_Xvar (fun hx => br_f (by decide) ?_) (fun hx => br_t rfl ?_)
  · obtain ⟨j, hj, rfl⟩ := hx
    have e1 : nI w * 14 + nI j = nI (w * 14 + j) := by rw [show nI w * 14 = nI (w * 14) from pk_mul w 14, nI_add]
    rw [e1, nI_clamp (show w * 14 + j < 2 ^ 31 by omega), hB.2.1 w hw j (by omega)]
    refine ⟨vp_in_nI (by omega) (by decide), ?_⟩
    unfold wpY_variable
    dsimp only
    refine td_Ysta hP hT hR hw fun nx' hl' wv' wc' vr' ce' hY => ?_
    refine td_Yvar (fun _ => br_f (by decide) ⟨vp_in_nI hj (by decide), ?_, td_mk hP hT hR hB hw⟩) (fun g => absurd ⟨j, hj, rfl⟩ g)
    rw [nI_clamp (show j < 2 ^ 31 by omega)]
    exact hY.2.1 j hj
  · unfold wpY_variable
    dsimp only
    refine td_Ysta hP hT hR hw fun nx' hl' wv' wc' vr' ce' hY => ?_
    exact td_Yvar (fun g => absurd g hx) (fun _ => br_t rfl ⟨rfl, td_mk hP hT hR hB hw⟩)
theorem i_vc_cell {k : Nat} {u : SX} {v : SY} (I : i_Rel k u v) (hk : k + 5 ≤ 2560) (v1 : Int32) : wpX_cell (fun r => wpY_cell (fun r' v' => r' = r ∧ i_Rel (k + 5) u v') v v1) u v1 := by
  obtain ⟨n, T, w, op, ax, ay, az, va, na, wb, inp, pc, me, wr, nx, hl, wv, wc, vr, ce, rfl, rfl, hP, hT, hR, hB, hw⟩ := I
  have hn := hP.1
  have hT2 := hR.1
  unfold wpX_cell
  dsimp only
  refine td_Xcell (fun hx => br_f (by decide) ?_) (fun hx => br_t rfl ?_)
  · obtain ⟨j, hj, rfl⟩ := hx
    have e1 : nI w * 14 + 6 + nI j = nI (w * 14 + (6 + j)) := by
      rw [show nI w * 14 = nI (w * 14) from pk_mul w 14, show nI (w * 14) + 6 = nI (w * 14 + 6) from nI_add _ 6, nI_add, Nat.add_assoc]
    rw [e1, nI_clamp (show w * 14 + (6 + j) < 2 ^ 31 by omega), hB.2.1 w hw (6 + j) (by omega)]
    refine ⟨vp_in_nI (by omega) (by decide), ?_⟩
    unfold wpY_cell
    dsimp only
    refine td_Ysta hP hT hR hw fun nx' hl' wv' wc' vr' ce' hY => ?_
    refine br_f (nI_pos (by omega)) (br_f (nI_nlt (a := 7) (by omega) (by decide)) ⟨vp_in_nI hj (by decide), ?_, td_mk hP hT hR hB hw⟩)
    rw [nI_clamp (show j < 2 ^ 31 by omega)]
    exact hY.2.2.1 j hj
  · unfold wpY_cell
    dsimp only
    refine td_Ysta hP hT hR hw fun nx' hl' wv' wc' vr' ce' hY => ?_
    exact br_c (fun _ => ⟨rfl, td_mk hP hT hR hB hw⟩) fun g => br_c (fun _ => ⟨rfl, td_mk hP hT hR hB hw⟩) fun g7 => absurd (td_C_le.mpr ⟨g, Int32.not_lt.mp g7⟩) hx
theorem i_vc_lastWrite {k : Nat} {u : SX} {v : SY} (I : i_Rel k u v) (hk : k + 5 ≤ 2560) (v1 : Int32) (v2 : Int32) : wpX_lastWrite (fun r => wpY_lastWrite (fun r' v' => r' = r ∧ i_Rel (k + 5) u v') v v1 v2) u v1 v2 := by
  obtain ⟨n, T, w, op, ax, ay, az, va, na, wb, inp, pc, me, wr, nx, hl, wv, wc, vr, ce, rfl, rfl, hP, hT, hR, hB, hw⟩ := I
  have hn := hP.1
  have hT2 := hR.1
  have hm : i_Rel (k + 5) (nI n, nI T, nI w, op, ax, ay, az, va, na, wb) (nI n, inp, nI w, nx, hl, wv, wc, op, ax, ay, az, vr, ce) := td_mk hP hT hR hB hw
  unfold wpX_lastWrite
  dsimp only
  refine br_c (fun h0 => ?_) fun h0 => ?_
  · subst h0
    refine td_Xvar (fun hx => br_f (by decide) ?_) (fun hx => br_t rfl ?_)
    · obtain ⟨j, hj, rfl⟩ := hx
      exact td_Xls hB hT2 (nI j) hw (td_YlwV hP hT hR hw hj fun nx' hl' wv' wc' vr' ce' => ⟨rfl, td_mk hP hT hR hB hw⟩)
    · unfold wX_lastWrite_17
      exact br_f (by decide) (td_YlwB ⟨fun z => hx z.2, fun z => absurd z.1 (by decide)⟩ ⟨rfl, hm⟩)
  · unfold wX_lastWrite_17
    refine br_c (fun h1 => ?_) fun h1 => td_YlwB ⟨fun z => h0 z.1, fun z => h1 z.1⟩ ⟨rfl, hm⟩
    subst h1
    refine td_Xcell (fun hx => br_f (by decide) ?_) (fun hx => br_t rfl (td_YlwB ⟨fun z => h0 z.1, fun z => hx z.2⟩ ⟨rfl, hm⟩))
    obtain ⟨j, hj, rfl⟩ := hx
    rw [td_6]
    exact td_Xls hB hT2 (nI (6 + j)) hw (td_YlwC hP hT hR hw hj fun nx' hl' wv' wc' vr' ce' => ⟨rfl, td_mk hP hT hR hB hw⟩)
theorem i_vc_runTo {k : Nat} {u : SX} {v : SY} (I : i_Rel k u v) (hk : k + 5 ≤ 2560) (v1 : Int32) : wpX_runTo (fun r u' => wpY_runTo (fun r' v' => r' = r ∧ i_Rel (k + 5) u' v') v v1) u v1 := by
  obtain ⟨n, T, w, op, ax, ay, az, va, na, wb, inp, pc, me, wr, nx, hl, wv, wc, vr, ce, rfl, rfl, hP, hT, hR, hB, hw⟩ := I
  have hn := hP.1
  have hT2 := hR.1
  unfold wpX_runTo
  dsimp only
  refine td_Xins_no (fun hx => br_f (by decide) ?_) (fun hx => br_t rfl ?_)
  · obtain ⟨j, hj, rfl⟩ := hx
    obtain ⟨r, w', hw', hX, hY⟩ := td_up hP hT hR hB hw hj (T - w) (w + 1) (by omega)
    refine nm_r (nI_1 w) ⟨_, hX _ ?_⟩
    unfold wpY_runTo
    dsimp only
    refine td_Ypl (fun _ => br_f (by decide) (td_Ysts hP hT hR fun nx' hl' wv' wc' vr' ce' => ?_)) (fun g => absurd ⟨j, hj, rfl⟩ g)
    exact nm_r (nI_1 w) ⟨_, hY _ _ _ _ _ _ _ fun nx2 hl2 wv2 wc2 vr2 ce2 => ⟨rfl, td_mk hP hT hR hB hw'⟩⟩
  · unfold wpY_runTo
    dsimp only
    exact td_Ypl (fun g => absurd g hx) (fun _ => br_t rfl ⟨rfl, td_mk hP hT hR hB hw⟩)
theorem i_vc_backTo {k : Nat} {u : SX} {v : SY} (I : i_Rel k u v) (hk : k + 5 ≤ 2560) (v1 : Int32) : wpX_backTo (fun r u' => wpY_backTo (fun r' v' => r' = r ∧ i_Rel (k + 5) u' v') v v1) u v1 := by
  obtain ⟨n, T, w, op, ax, ay, az, va, na, wb, inp, pc, me, wr, nx, hl, wv, wc, vr, ce, rfl, rfl, hP, hT, hR, hB, hw⟩ := I
  have hn := hP.1
  have hT2 := hR.1
  unfold wpX_backTo
  dsimp only
  refine td_Xins_no (fun hx => br_f (by decide) ?_) (fun hx => br_t rfl ?_)
  · obtain ⟨j, hj, rfl⟩ := hx
    obtain ⟨r, w', hw', hX, hY⟩ := td_dn hP hT hR hB hw hj w hw
    refine nm_e ⟨_, hX _ ?_⟩
    unfold wpY_backTo
    dsimp only
    refine td_Ypl (fun _ => br_f (by decide) ?_) (fun g => absurd ⟨j, hj, rfl⟩ g)
    exact nm_e ⟨_, hY _ _ _ _ _ _ _ fun nx2 hl2 wv2 wc2 vr2 ce2 => ⟨rfl, td_mk hP hT hR hB hw'⟩⟩
  · unfold wpY_backTo
    dsimp only
    exact td_Ypl (fun g => absurd g hx) (fun _ => br_t rfl ⟨rfl, td_mk hP hT hR hB hw⟩)
theorem i_vc_backBeforeWrite {k : Nat} {u : SX} {v : SY} (I : i_Rel k u v) (hk : k + 5 ≤ 2560) (v1 : Int32) : wpX_backBeforeWrite (fun r u' => wpY_backBeforeWrite (fun r' v' => r' = r ∧ i_Rel (k + 5) u' v') v v1) u v1 := by
  obtain ⟨n, T, w, op, ax, ay, az, va, na, wb, inp, pc, me, wr, nx, hl, wv, wc, vr, ce, rfl, rfl, hP, hT, hR, hB, hw⟩ := I
  have hn := hP.1
  have hT2 := hR.1
  unfold wpX_backBeforeWrite
  dsimp only
  refine td_Xvar (fun hx => br_f (by decide) ?_) (fun hx => br_t rfl ?_)
  · obtain ⟨j, hj, rfl⟩ := hx
    have hl' := td_last_le wr (nI j) w
    by_cases e : td_last wr (nI j) w = 0
    · refine td_Xls hB hT2 (nI j) hw (br_t (by rw [e]; rfl) ?_)
      unfold wpY_backBeforeWrite
      dsimp only
      refine td_Yvar (fun _ => br_f (by decide) (td_YlwV hP hT hR hw hj fun nx2 hl2 wv2 wc2 vr2 ce2 => ?_)) (fun g => absurd ⟨j, hj, rfl⟩ g)
      exact br_t (by rw [e]; rfl) ⟨rfl, td_mk hP hT hR hB hw⟩
    · have e1 : nI (td_last wr (nI j) w) - 1 = nI (td_last wr (nI j) w - 1) := pk_sub (b := 1) (by omega)
      refine td_Xls hB hT2 (nI j) hw (br_f (nI_ne0 (by omega) (by omega)) (nm_r e1 ?_))
      unfold wpY_backBeforeWrite
      dsimp only
      refine td_Yvar (fun _ => br_f (by decide) (td_YlwV hP hT hR hw hj fun nx2 hl2 wv2 wc2 vr2 ce2 => ?_)) (fun g => absurd ⟨j, hj, rfl⟩ g)
      exact br_f (nI_ne0 (by omega) (by omega)) (nm_r e1 ⟨rfl, td_mk hP hT hR hB (by omega)⟩)
  · unfold wpY_backBeforeWrite
    dsimp only
    exact td_Yvar (fun g => absurd g hx) (fun _ => br_t rfl ⟨rfl, td_mk hP hT hR hB hw⟩)
