theorem td_Yvar {post : Int32 → Prop} {v : SY} {x : Int32} (h1 : td_V x → post 1) (h0 : ¬ td_V x → post 0) : wpY_isVariable post v x := by
  obtain ⟨a1, a2, a3, a4, a5, a6, a7, a8, a9, a10, a11, a12, a13⟩ := v
  unfold wpY_isVariable
  exact br_c (fun h => h0 fun z => (td_V_le.mp z).1 h) fun h => br_c (fun g => h0 fun z => absurd (td_V_le.mp z).2 (Int32.not_le.mpr g)) fun g => h1 (td_V_le.mpr ⟨h, Int32.not_lt.mp g⟩)
theorem td_Ypl {post : Int32 → Prop} {v : SY} {x : Int32} (h1 : td_L x → post 1) (h0 : ¬ td_L x → post 0) : wpY_isPlace post v x := by
  obtain ⟨a1, a2, a3, a4, a5, a6, a7, a8, a9, a10, a11, a12, a13⟩ := v
  unfold wpY_isPlace
  exact br_c (fun h => h0 fun z => (td_L_le.mp z).1 h) fun h => br_c (fun g => h0 fun z => absurd (td_L_le.mp z).2 (Int32.not_le.mpr g)) fun g => h1 (td_L_le.mpr ⟨h, Int32.not_lt.mp g⟩)
section
variable {cn inp tm nx hl wv wc : Int32} {op ax ay az vr ce : Nat → Int32}
theorem td_Y69z {post : Int32 → Prop} {o z : Int32} (ho : ¬ o < 1) (ho3 : ¬ 3 < o) (h1 : td_V z → post 1) (h0 : ¬ td_V z → post 0) : wY_fits_69 post o z cn inp tm nx hl wv wc op ax ay az vr ce := by
  unfold wY_fits_69
  exact br_f ho (br_f ho3 (td_Yvar (fun h => br_f (by decide) (h1 h)) (fun h => br_t rfl (h0 h))))
theorem td_Yfit {post : Int32 → Prop} {o x y z : Int32} (h1 : td_ok o x y z → post 1) (h0 : ¬ td_ok o x y z → post 0) :
    wpY_fits post (cn, inp, tm, nx, hl, wv, wc, op, ax, ay, az, vr, ce) o x y z := by
  unfold wpY_fits
  dsimp only
  refine br_c (fun h => h0 fun g => ?_) fun hn => br_c (fun h => ?_) fun h => h0 fun g => ?_
  · obtain ⟨j, hj, rfl⟩ := td_okR g
    exact absurd h (nI_pos (by omega))
  · obtain ⟨j, hj, rfl⟩ := nI_of hn
    have h8 : j ≤ 8 := (nI_leI hj (by decide)).mp h
    rcases (by omega : j = 0 ∨ j = 1 ∨ j = 2 ∨ j = 3 ∨ j = 4 ∨ j = 5 ∨ j = 6 ∨ j = 7 ∨ j = 8) with rfl | rfl | rfl | rfl | rfl | rfl | rfl | rfl | rfl
    · refine br_f (by decide) (br_f (by decide) (td_Yvar (fun hx => br_f (by decide) (br_f (by decide) (br_t (by decide) ?_))) (fun g => br_t rfl (h0 fun q => g (td_ok0.mp q)))))
      unfold wY_fits_69
      exact br_t (by decide) (h1 (td_ok0.mpr hx))
    · exact br_f (by decide) (br_f (by decide) (td_Yvar (fun hx => br_f (by decide) (br_f (by decide) (br_f (by decide)
        (td_Yvar (fun hy => br_f (by decide) (td_Y69z (by decide) (by decide) (fun hz => h1 (td_ok1.mpr ⟨hx, hy, hz⟩)) (fun g => h0 fun q => g (td_ok1.mp q).2.2)))
          (fun g => br_t rfl (h0 fun q => g (td_ok1.mp q).2.1)))))) (fun g => br_t rfl (h0 fun q => g (td_ok1.mp q).1))))
    · exact br_f (by decide) (br_f (by decide) (td_Yvar (fun hx => br_f (by decide) (br_f (by decide) (br_f (by decide)
        (td_Yvar (fun hy => br_f (by decide) (td_Y69z (by decide) (by decide) (fun hz => h1 (td_ok2.mpr ⟨hx, hy, hz⟩)) (fun g => h0 fun q => g (td_ok2.mp q).2.2)))
          (fun g => br_t rfl (h0 fun q => g (td_ok2.mp q).2.1)))))) (fun g => br_t rfl (h0 fun q => g (td_ok2.mp q).1))))
    · exact br_f (by decide) (br_f (by decide) (td_Yvar (fun hx => br_f (by decide) (br_f (by decide) (br_f (by decide)
        (td_Yvar (fun hy => br_f (by decide) (td_Y69z (by decide) (by decide) (fun hz => h1 (td_ok3.mpr ⟨hx, hy, hz⟩)) (fun g => h0 fun q => g (td_ok3.mp q).2.2)))
          (fun g => br_t rfl (h0 fun q => g (td_ok3.mp q).2.1)))))) (fun g => br_t rfl (h0 fun q => g (td_ok3.mp q).1))))
    · refine br_f (by decide) (br_f (by decide) (td_Yvar (fun hx => br_f (by decide) (br_f (by decide) (br_f (by decide)
        (td_Yvar (fun hy => br_f (by decide) ?_)
          (fun g => br_t rfl (h0 fun q => g (td_ok4.mp q).2)))))) (fun g => br_t rfl (h0 fun q => g (td_ok4.mp q).1))))
      unfold wY_fits_69
      exact br_f (by decide) (br_t (by decide) (h1 (td_ok4.mpr ⟨hx, hy⟩)))
    · refine br_f (by decide) (br_f (by decide) (td_Yvar (fun hx => br_f (by decide) (br_f (by decide) (br_f (by decide)
        (td_Yvar (fun hy => br_f (by decide) ?_)
          (fun g => br_t rfl (h0 fun q => g (td_ok5.mp q).2)))))) (fun g => br_t rfl (h0 fun q => g (td_ok5.mp q).1))))
      unfold wY_fits_69
      exact br_f (by decide) (br_t (by decide) (h1 (td_ok5.mpr ⟨hx, hy⟩)))
    · exact br_f (by decide) (br_f (by decide) (td_Yvar (fun hx => br_f (by decide) (br_t (by decide)
        (td_Ypl (fun hy => ⟨rfl, h1 (td_ok6.mpr ⟨hx, hy⟩)⟩) (fun g => ⟨rfl, h0 fun q => g (td_ok6.mp q).2⟩)))) (fun g => br_t rfl (h0 fun q => g (td_ok6.mp q).1))))
    · exact br_f (by decide) (br_t (by decide) (td_Ypl (fun hx => ⟨rfl, h1 (td_ok7.mpr hx)⟩) (fun g => ⟨rfl, h0 fun q => g (td_ok7.mp q)⟩)))
    · exact br_t (by decide) (h1 td_ok8)
  · obtain ⟨j, hj, rfl⟩ := td_okR g
    exact absurd (nI_le (b := 8) (by omega) (by decide)) h
end
/-- the reference stands at the time s -/
def td_Y (op : Nat → Int32) (pc : Nat → Nat) (me : Nat → Nat → Int32) (s : Nat) (nx hl : Int32) (vr ce : Nat → Int32) : Prop :=
  nx = nI (pc s) ∧ (∀ p, p < 6 → vr p = me s p) ∧ (∀ c, c < 8 → ce c = me s (6 + c)) ∧ (td_ha op pc s → hl = 1) ∧ (¬ td_ha op pc s → hl = 0)
/-- it remembers what the step s wrote -/
def td_W (wr : Nat → Int32) (s : Nat) (wv wc : Int32) : Prop :=
  (∀ j, j < 6 → (wv = nI j ↔ wr s = nI j)) ∧ (∀ j, j < 8 → (wc = nI j ↔ wr s = nI (6 + j)))
section
variable {op ax ay az vr ce : Nat → Int32} {inp : Int32} {pc : Nat → Nat} {me : Nat → Nat → Int32} {wr : Nat → Int32} {nx hl : Int32} {s : Nat}
theorem td_Yv {a : Nat} {val : Int32} (hT : td_Tr op ax ay az inp pc me wr) (hY : td_Y op pc me s nx hl vr ce) (hh : ¬ td_ha op pc s) (ha : a < 6)
    (h8 : ¬ op (pc s) = 8) (hw : td_w (op (pc s)) (ax (pc s)) (ay (pc s)) (me s) = nI a) (hv : td_v (op (pc s)) (ax (pc s)) (ay (pc s)) (az (pc s)) (me s) = val)
    (hn : td_n (op (pc s)) (ax (pc s)) (ay (pc s)) (pc s) (me s) = pc s + 1) :
    td_Y op pc me (s + 1) (nx + 1) hl (upd vr a val) ce ∧ td_W wr (s + 1) (nI a) (-1) := by
  obtain ⟨tn, tm, tw⟩ := hT.2.2 s
  rw [hw] at tw
  rw [td_m, hw, hv, if_neg (td_m1 (by omega)), nI_clamp (by omega)] at tm
  obtain ⟨y1, y2, y3, y4, y5⟩ := hY
  refine ⟨⟨?_, fun p hp => ?_, fun c hc => ?_, fun h => absurd h h8, fun _ => y5 hh⟩, fun j hj => ?_, fun j hj => ?_⟩
  · rw [y1, nI_1, tn, hn]
  · rw [tm]
    by_cases e : p = a
    · rw [e, pk_us, pk_us]
    · rw [pk_un e, pk_un e, y2 p hp]
  · rw [tm, pk_un (by omega), y3 c hc]
  · rw [tw]
  · rw [tw, nI_eq (by omega) (by omega)]
    exact ⟨fun h => absurd h.symm (td_m1 (by omega)), fun h => absurd h (by omega)⟩
theorem td_Yc {c : Nat} {val : Int32} (hT : td_Tr op ax ay az inp pc me wr) (hY : td_Y op pc me s nx hl vr ce) (hh : ¬ td_ha op pc s) (hc : c < 8)
    (h8 : ¬ op (pc s) = 8) (hw : td_w (op (pc s)) (ax (pc s)) (ay (pc s)) (me s) = nI (6 + c)) (hv : td_v (op (pc s)) (ax (pc s)) (ay (pc s)) (az (pc s)) (me s) = val)
    (hn : td_n (op (pc s)) (ax (pc s)) (ay (pc s)) (pc s) (me s) = pc s + 1) :
    td_Y op pc me (s + 1) (nx + 1) hl vr (upd ce c val) ∧ td_W wr (s + 1) (-1) (nI c) := by
  obtain ⟨tn, tm, tw⟩ := hT.2.2 s
  rw [hw] at tw
  rw [td_m, hw, hv, if_neg (td_m1 (by omega)), nI_clamp (by omega)] at tm
  obtain ⟨y1, y2, y3, y4, y5⟩ := hY
  refine ⟨⟨?_, fun p hp => ?_, fun d hd => ?_, fun h => absurd h h8, fun _ => y5 hh⟩, fun j hj => ?_, fun j hj => ?_⟩
  · rw [y1, nI_1, tn, hn]
  · rw [tm, pk_un (by omega), y2 p hp]
  · rw [tm]
    by_cases e : d = c
    · rw [e, pk_us, pk_us]
    · rw [pk_un e, pk_un (by omega), y3 d hd]
  · rw [tw, nI_eq (by omega) (by omega)]
    exact ⟨fun h => absurd h.symm (td_m1 (by omega)), fun h => absurd h (by omega)⟩
  · rw [tw, nI_eq (by omega) (by omega), nI_eq (by omega) (by omega)]
    omega
theorem td_Yn {nx' hl' : Int32} (hT : td_Tr op ax ay az inp pc me wr) (hY : td_Y op pc me s nx hl vr ce)
    (h8 : op (pc s) = 8 → hl' = 1) (h8' : ¬ op (pc s) = 8 → hl' = 0) (hw : td_w (op (pc s)) (ax (pc s)) (ay (pc s)) (me s) = -1)
    (hn : nx' = nI (td_n (op (pc s)) (ax (pc s)) (ay (pc s)) (pc s) (me s))) :
    td_Y op pc me (s + 1) nx' hl' vr ce ∧ td_W wr (s + 1) (-1) (-1) := by
  obtain ⟨tn, tm, tw⟩ := hT.2.2 s
  rw [hw] at tw
  rw [td_m, hw, if_pos rfl] at tm
  obtain ⟨y1, y2, y3, y4, y5⟩ := hY
  refine ⟨⟨?_, fun p hp => ?_, fun d hd => ?_, h8, h8'⟩, fun j hj => ?_, fun j hj => ?_⟩
  · rw [hn, tn]
  · rw [tm, y2 p hp]
  · rw [tm, y3 d hd]
  · rw [tw]
  · rw [tw]
    exact ⟨fun h => absurd h.symm (td_m1 (by omega)), fun h => absurd h.symm (td_m1 (by omega))⟩
end
