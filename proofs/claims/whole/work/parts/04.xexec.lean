theorem td_m1 {j : Nat} (hj : j < 2 ^ 31) : ¬ nI j = -1 := fun h => nI_pos hj (by rw [h]; decide)
theorem td_wj {o x y z : Int32} (m : Nat → Int32) (hok : td_ok o x y z) : td_w o x y m = -1 ∨ ∃ j : Nat, j < 14 ∧ td_w o x y m = nI j := by
  rcases hok with ⟨e, hx⟩ | ⟨e, hx, _⟩ | ⟨e, hx, _⟩ | ⟨e, hx, _⟩ | ⟨e, hx, _⟩ | ⟨e, hx, hy⟩ | ⟨e, hx⟩ | ⟨e, hx⟩ | e <;> rw [e]
  · rw [td_w0]
    obtain ⟨j, hj, ex⟩ := hx
    exact Or.inr ⟨j, by omega, ex⟩
  · rw [td_w1]
    obtain ⟨j, hj, ex⟩ := hx
    exact Or.inr ⟨j, by omega, ex⟩
  · rw [td_w2]
    obtain ⟨j, hj, ex⟩ := hx
    exact Or.inr ⟨j, by omega, ex⟩
  · rw [td_w3]
    obtain ⟨j, hj, ex⟩ := hx
    exact Or.inr ⟨j, by omega, ex⟩
  · rw [td_w4]
    obtain ⟨j, hj, ex⟩ := hx
    exact Or.inr ⟨j, by omega, ex⟩
  · rw [td_w5]
    obtain ⟨c, hc, ec⟩ := td_and7 (m y.toNatClampNeg)
    rw [ec, td_6]
    exact Or.inr ⟨6 + c, by omega, rfl⟩
  · exact Or.inl (td_w6 _ _ _)
  · exact Or.inl (td_w7 _ _ _)
  · exact Or.inl (td_w8 _ _ _)
theorem td_TabS {pc : Nat → Nat} {me : Nat → Nat → Int32} {wr : Nat → Int32} {s : Nat} {va na wb a : Nat → Int32} (hB : td_Tab pc me wr s va na wb)
    (h1 : ∀ q, q < (s + 1) * 14 → a q = va q) (h2 : ∀ p, p < 14 → a ((s + 1) * 14 + p) = me (s + 1) p) :
    td_Tab pc me wr (s + 1) a (upd na (s + 1) (nI (pc (s + 1)))) (upd wb (s + 1) (wr (s + 1))) := by
  refine ⟨fun t ht => ?_, fun t ht p hp => ?_, fun t h0 ht => ?_⟩
  · by_cases e : t = s + 1
    · rw [e, pk_us]
    · rw [pk_un e]
      exact hB.1 t (by omega)
  · by_cases e : t = s + 1
    · rw [e]
      exact h2 p hp
    · rw [h1 _ (by omega)]
      exact hB.2.1 t (by omega) p hp
  · by_cases e : t = s + 1
    · rw [e, pk_us]
    · rw [pk_un e]
      exact hB.2.2 t h0 (by omega)
section
variable {ic sc nw : Int32} {op xo yo zo va na wb : Nat → Int32} {m : Nat → Int32} {i b : Nat} {inp : Int32} {pc : Nat → Nat} {me : Nat → Nat → Int32} {wr : Nat → Int32} {n : Nat}
theorem td_X86 {post : SX → Prop} (hi : i < 20) (hok : td_ok (op i) (xo i) (yo i) (zo i)) (hb : b + 14 ≤ 2814) (hm : ∀ p, p < 14 → va (b + p) = m p) (s : Nat) (hs : s < 200)
    (h : post (ic, sc, nw, op, xo, yo, zo, va, upd na (s + 1) (nI (td_n (op i) (xo i) (yo i) i m)), wb)) : wX_executeStep_86 post (nI (s + 1)) (nI i) (nI b) ic sc nw op xo yo zo va na wb := by
  unfold wX_executeStep_86
  refine td_Xia hi hok hb hm ⟨vp_in_nI (by omega) (by decide), nm_e ?_⟩
  rw [nI_clamp (by omega)]
  exact h
theorem td_Xes {post : SX → Prop} {s : Nat} (hP : td_Pg n op xo yo zo) (hT : td_Tr op xo yo zo inp pc me wr) (hB : td_Tab pc me wr s va na wb) (hs : s < 200) (hpc : pc s < n)
    (k : ∀ va' na' wb', td_Tab pc me wr (s + 1) va' na' wb' → post (ic, sc, nw, op, xo, yo, zo, va', na', wb')) :
    wpX_executeStep post (ic, sc, nw, op, xo, yo, zo, va, na, wb) (nI (s + 1)) (nI (pc s)) := by
  have hn := hP.1
  have hok := hP.2 _ hpc
  obtain ⟨tn, tm, tw⟩ := hT.2.2 s
  unfold wpX_executeStep
  dsimp only
  refine nm_r (e' := nI (s * 14)) (by rw [nI_pred]; exact pk_mul s 14) (nm_r (e' := nI ((s + 1) * 14)) (pk_mul (s + 1) 14) ?_)
  refine pk_loop (fun n j a => wX_executeStep_16 post (nI (s + 1)) (nI (pc s)) (nI (s * 14)) (nI ((s + 1) * 14)) ic sc nw n (nI j) op xo yo zo a na wb)
    (fun j a => (∀ q, q < (s + 1) * 14 → a q = va q) ∧ ∀ p, p < j → a ((s + 1) * 14 + p) = me s p) 14 0 va (by omega) ⟨fun _ _ => rfl, fun p hp => absurd hp (by omega)⟩ ?_ ?_
  · intro n' a ⟨h1, h2⟩
    have hm : ∀ p, p < 14 → a (s * 14 + p) = me s p := fun p hp => by
      rw [h1 _ (by omega)]
      exact hB.2.1 s (Nat.le_refl s) p hp
    rw [wX_executeStep_16]
    refine br_t (by decide) (td_Xpw (by omega) hok (by omega) hm ⟨vp_in_nI (by omega) (by decide), nm_e ?_⟩)
    rw [nI_clamp (show s + 1 < 2 ^ 31 by omega), ← tw]
    refine br_c (fun e => ?_) fun e => ?_
    · refine td_X86 (by omega) hok (by omega) hm s hs (k _ _ _ ?_)
      rw [← tn]
      refine td_TabS hB h1 fun p hp => ?_
      rw [h2 p hp, tm, td_m, ← tw, if_pos e]
    · refine td_Xvw (by omega) hok (by omega) hm (by rw [← tw]; exact e) ?_
      obtain ⟨j, hj, ej⟩ : ∃ j : Nat, j < 14 ∧ wr (s + 1) = nI j := by
        rcases td_wj (me s) hok with h | h
        · exact absurd (tw.trans h) e
        · rw [tw]
          exact h
      have e1 : nI ((s + 1) * 14) + wr (s + 1) = nI ((s + 1) * 14 + j) := by rw [ej, nI_add]
      have tm' : me (s + 1) = upd (me s) j (td_v (op (pc s)) (xo (pc s)) (yo (pc s)) (zo (pc s)) (me s)) := by
        rw [tm, td_m, ← tw, if_neg e, ej, nI_clamp (by omega)]
      rw [e1, nI_clamp (show (s + 1) * 14 + j < 2 ^ 31 by omega)]
      refine ⟨vp_in_nI (by omega) (by decide), nm_e ?_⟩
      refine td_X86 (by omega) hok (by omega) (m := me s) (fun p hp => ?_) s hs (k _ _ _ ?_)
      · rw [pk_un (by omega)]
        exact hm p hp
      · rw [← tn]
        refine td_TabS hB (fun q hq => ?_) fun p hp => ?_
        · rw [pk_un (by omega)]
          exact h1 q hq
        · rw [tm']
          by_cases hpj : p = j
          · rw [hpj, pk_us, pk_us]
          · rw [pk_un (by omega), pk_un hpj, h2 p hp]
  · intro n' j a hj ⟨h1, h2⟩ ih
    have e1 : nI (s * 14) + nI j = nI (s * 14 + j) := nI_add _ _
    have e2 : nI ((s + 1) * 14) + nI j = nI ((s + 1) * 14 + j) := nI_add _ _
    rw [wX_executeStep_16]
    dsimp only
    rw [e1, e2, nI_clamp (show s * 14 + j < 2 ^ 31 by omega), nI_clamp (show (s + 1) * 14 + j < 2 ^ 31 by omega)]
    refine br_f (nI_ge (b := 14) hj (by decide)) ⟨vp_in_nI (by omega) (by decide), vp_in_nI (by omega) (by decide), nm_e (nm_r (nI_1 j) (ih _ ⟨fun q hq => ?_, fun p hp => ?_⟩))⟩
    · rw [pk_un (by omega)]
      exact h1 q hq
    · by_cases hpj : p = j
      · rw [hpj, pk_us, h1 _ (by omega)]
        exact hB.2.1 s (Nat.le_refl s) j (by omega)
      · rw [pk_un (by omega)]
        exact h2 p (by omega)
theorem td_Xlp {post : SX → Prop} (hP : td_Pg n op xo yo zo) (hT : td_Tr op xo yo zo inp pc me wr)
    (K : ∀ T va' na' wb', td_Run n op pc T → td_Tab pc me wr T va' na' wb' → post (nI n, nI T, 0, op, xo, yo, zo, va', na', wb')) :
    ∀ (d s : Nat) (va na wb : Nat → Int32), s + d = 200 → pc s ≤ 20 → td_Tab pc me wr s va na wb → (∀ t, t ≤ s → ¬ td_ha op pc t) → (∀ t, t < s → pc t < n) →
      wX_execute_12 post (d + 1) (nI (s + 1)) (nI n) (nI s) 0 op xo yo zo va na wb := by
  have hn := hP.1
  intro d
  induction d with
  | zero =>
    intro s va na wb hs h20 hB hh hp
    have e : s = 200 := by omega
    subst e
    rw [wX_execute_12]
    exact br_t (nI_lt (a := 200) (b := 201) (by omega) (by decide)) (K 200 va na wb ⟨by omega, fun t ht => ⟨hh t (by omega), hp t ht⟩, Or.inl rfl⟩ hB)
  | succ d ih =>
    intro s va na wb hs h20 hB hh hp
    rw [wX_execute_12]
    dsimp only
    refine br_f (nI_nlt (a := 200) (b := s + 1) (by omega) (by decide)) ?_
    rw [nI_pred, nI_clamp (show s < 2 ^ 31 by omega)]
    refine ⟨vp_in_nI (by omega) (by decide), nm_r (hB.1 s (Nat.le_refl s)) ?_⟩
    refine pk_lt (pc s) n (fun hlt => ?_) (fun hge => K s va na wb ⟨by omega, fun t ht => ⟨hh t (by omega), hp t ht⟩, Or.inr (Or.inr hge)⟩ hB) rfl rfl (by omega) (by omega)
    have hp' : ∀ t, t < s + 1 → pc t < n := fun t ht => by
      by_cases e : t = s
      · rw [e]
        exact hlt
      · exact hp t (by omega)
    refine td_Xes hP hT hB (by omega) hlt fun va' na' wb' hB' => ?_
    dsimp only
    rw [nI_clamp (show pc s < 2 ^ 31 by omega)]
    refine ⟨vp_in_nI (by omega) (by decide), br_c (fun e => ?_) fun e => nm_r (nI_1 (s + 1)) ?_⟩
    · exact K (s + 1) va' na' wb' ⟨by omega, fun t ht => ⟨hh t (by omega), hp' t ht⟩, Or.inr (Or.inl e)⟩ hB'
    · refine ih (s + 1) va' na' wb' (by omega) (td_pcB hP hT hlt) hB' (fun t ht => ?_) hp'
      by_cases h : t = s + 1
      · rw [h]
        exact e
      · exact hh t (by omega)
theorem td_Xex {post : SX → Prop} (hP : td_Pg n op xo yo zo) (h0 : na 0 = 0) (hv : ∀ p, p < 14 → va p = if p = 5 then inp else 0)
    (k : ∀ T pc me wr va' na' wb', td_Tr op xo yo zo inp pc me wr → td_Run n op pc T → td_Tab pc me wr T va' na' wb' → post (nI n, nI T, 0, op, xo, yo, zo, va', na', wb')) :
    wpX_execute post (nI n, sc, nw, op, xo, yo, zo, va, na, wb) := by
  obtain ⟨pc, me, wr, hT⟩ := td_TrE op xo yo zo inp
  unfold wpX_execute
  dsimp only
  have hB : td_Tab pc me wr 0 va na wb := by
    refine ⟨fun t ht => ?_, fun t ht p hp => ?_, fun t h1 ht => absurd ht (by omega)⟩
    · have e : t = 0 := by omega
      rw [e, h0, hT.1, nI_0]
    · have e : t = 0 := by omega
      rw [e, hT.2.1 p, ← hv p hp, Nat.zero_mul, Nat.zero_add]
  exact ⟨201, td_Xlp hP hT (fun T va' na' wb' hR hB' => k T pc me wr va' na' wb' hT hR hB') 200 0 va na wb rfl (by rw [hT.1]; omega) hB
    (fun t ht h => by
      have e : t = 0 := by omega
      rw [e] at h
      exact h) (fun t ht => absurd ht (by omega))⟩
end
