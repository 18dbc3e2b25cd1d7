/-- a variable's number; an instruction's number; a cell's number -/
def td_V (x : Int32) : Prop := ∃ j : Nat, j < 6 ∧ x = nI j
def td_L (x : Int32) : Prop := ∃ j : Nat, j < 20 ∧ x = nI j
def td_C (x : Int32) : Prop := ∃ j : Nat, j < 8 ∧ x = nI j
/-- what emit takes -/
def td_ok (o x y z : Int32) : Prop :=
  (o = 0 ∧ td_V x) ∨ (o = 1 ∧ td_V x ∧ td_V y ∧ td_V z) ∨ (o = 2 ∧ td_V x ∧ td_V y ∧ td_V z) ∨ (o = 3 ∧ td_V x ∧ td_V y ∧ td_V z) ∨
  (o = 4 ∧ td_V x ∧ td_V y) ∨ (o = 5 ∧ td_V x ∧ td_V y) ∨ (o = 6 ∧ td_V x ∧ td_L y) ∨ (o = 7 ∧ td_L x) ∨ o = 8
theorem td_rng {x : Int32} {n : Nat} (hn : n < 2 ^ 31) : (∃ j : Nat, j < n ∧ x = nI j) ↔ (¬ x < 0 ∧ x < nI n) := by
  constructor
  · rintro ⟨j, hj, rfl⟩
    exact ⟨nI_pos (by omega), nI_lt hj hn⟩
  · rintro ⟨h0, h⟩
    obtain ⟨j, hj, rfl⟩ := nI_of h0
    exact ⟨j, (nI_ltI hj hn).mp h, rfl⟩
theorem td_V_lt {x : Int32} : td_V x ↔ (¬ x < 0 ∧ x < 6) := td_rng (n := 6) (by decide)
theorem td_L_lt {x : Int32} : td_L x ↔ (¬ x < 0 ∧ x < 20) := td_rng (n := 20) (by decide)
theorem td_C_lt {x : Int32} : td_C x ↔ (¬ x < 0 ∧ x < 8) := td_rng (n := 8) (by decide)
theorem td_rng' {x : Int32} {n : Nat} (hn : n + 1 < 2 ^ 31) : (∃ j : Nat, j < n + 1 ∧ x = nI j) ↔ (¬ x < 0 ∧ x ≤ nI n) := by
  constructor
  · rintro ⟨j, hj, rfl⟩
    exact ⟨nI_pos (by omega), nI_le (by omega) (by omega)⟩
  · rintro ⟨h0, h⟩
    obtain ⟨j, hj, rfl⟩ := nI_of h0
    have := (nI_leI hj (by omega)).mp h
    exact ⟨j, by omega, rfl⟩
theorem td_V_le {x : Int32} : td_V x ↔ (¬ x < 0 ∧ x ≤ 5) := td_rng' (n := 5) (by decide)
theorem td_L_le {x : Int32} : td_L x ↔ (¬ x < 0 ∧ x ≤ 19) := td_rng' (n := 19) (by decide)
theorem td_C_le {x : Int32} : td_C x ↔ (¬ x < 0 ∧ x ≤ 7) := td_rng' (n := 7) (by decide)
theorem td_ok0 {x y z : Int32} : td_ok 0 x y z ↔ td_V x := by
  unfold td_ok
  exact ⟨by rintro (⟨_, h⟩ | ⟨h, _⟩ | ⟨h, _⟩ | ⟨h, _⟩ | ⟨h, _⟩ | ⟨h, _⟩ | ⟨h, _⟩ | ⟨h, _⟩ | h) <;> first | exact h | exact absurd h (by decide), fun h => Or.inl ⟨rfl, h⟩⟩
theorem td_ok1 {x y z : Int32} : td_ok 1 x y z ↔ td_V x ∧ td_V y ∧ td_V z := by
  unfold td_ok
  exact ⟨by rintro (⟨h, _⟩ | ⟨_, h⟩ | ⟨h, _⟩ | ⟨h, _⟩ | ⟨h, _⟩ | ⟨h, _⟩ | ⟨h, _⟩ | ⟨h, _⟩ | h) <;> first | exact h | exact absurd h (by decide), fun h => Or.inr (Or.inl ⟨rfl, h⟩)⟩
theorem td_ok2 {x y z : Int32} : td_ok 2 x y z ↔ td_V x ∧ td_V y ∧ td_V z := by
  unfold td_ok
  exact ⟨by rintro (⟨h, _⟩ | ⟨h, _⟩ | ⟨_, h⟩ | ⟨h, _⟩ | ⟨h, _⟩ | ⟨h, _⟩ | ⟨h, _⟩ | ⟨h, _⟩ | h) <;> first | exact h | exact absurd h (by decide), fun h => Or.inr (Or.inr (Or.inl ⟨rfl, h⟩))⟩
theorem td_ok3 {x y z : Int32} : td_ok 3 x y z ↔ td_V x ∧ td_V y ∧ td_V z := by
  unfold td_ok
  exact ⟨by rintro (⟨h, _⟩ | ⟨h, _⟩ | ⟨h, _⟩ | ⟨_, h⟩ | ⟨h, _⟩ | ⟨h, _⟩ | ⟨h, _⟩ | ⟨h, _⟩ | h) <;> first | exact h | exact absurd h (by decide), fun h => Or.inr (Or.inr (Or.inr (Or.inl ⟨rfl, h⟩)))⟩
theorem td_ok4 {x y z : Int32} : td_ok 4 x y z ↔ td_V x ∧ td_V y := by
  unfold td_ok
  exact ⟨by rintro (⟨h, _⟩ | ⟨h, _⟩ | ⟨h, _⟩ | ⟨h, _⟩ | ⟨_, h⟩ | ⟨h, _⟩ | ⟨h, _⟩ | ⟨h, _⟩ | h) <;> first | exact h | exact absurd h (by decide), fun h => Or.inr (Or.inr (Or.inr (Or.inr (Or.inl ⟨rfl, h⟩))))⟩
theorem td_ok5 {x y z : Int32} : td_ok 5 x y z ↔ td_V x ∧ td_V y := by
  unfold td_ok
  exact ⟨by rintro (⟨h, _⟩ | ⟨h, _⟩ | ⟨h, _⟩ | ⟨h, _⟩ | ⟨h, _⟩ | ⟨_, h⟩ | ⟨h, _⟩ | ⟨h, _⟩ | h) <;> first | exact h | exact absurd h (by decide), fun h => Or.inr (Or.inr (Or.inr (Or.inr (Or.inr (Or.inl ⟨rfl, h⟩)))))⟩
theorem td_ok6 {x y z : Int32} : td_ok 6 x y z ↔ td_V x ∧ td_L y := by
  unfold td_ok
  exact ⟨by rintro (⟨h, _⟩ | ⟨h, _⟩ | ⟨h, _⟩ | ⟨h, _⟩ | ⟨h, _⟩ | ⟨h, _⟩ | ⟨_, h⟩ | ⟨h, _⟩ | h) <;> first | exact h | exact absurd h (by decide), fun h => Or.inr (Or.inr (Or.inr (Or.inr (Or.inr (Or.inr (Or.inl ⟨rfl, h⟩))))))⟩
theorem td_ok7 {x y z : Int32} : td_ok 7 x y z ↔ td_L x := by
  unfold td_ok
  exact ⟨by rintro (⟨h, _⟩ | ⟨h, _⟩ | ⟨h, _⟩ | ⟨h, _⟩ | ⟨h, _⟩ | ⟨h, _⟩ | ⟨h, _⟩ | ⟨_, h⟩ | h) <;> first | exact h | exact absurd h (by decide), fun h => Or.inr (Or.inr (Or.inr (Or.inr (Or.inr (Or.inr (Or.inr (Or.inl ⟨rfl, h⟩)))))))⟩
theorem td_ok8 {x y z : Int32} : td_ok 8 x y z := Or.inr (Or.inr (Or.inr (Or.inr (Or.inr (Or.inr (Or.inr (Or.inr rfl)))))))
theorem td_okR {o x y z : Int32} (h : td_ok o x y z) : ∃ j : Nat, j < 9 ∧ o = nI j := by
  rcases h with ⟨h, _⟩ | ⟨h, _⟩ | ⟨h, _⟩ | ⟨h, _⟩ | ⟨h, _⟩ | ⟨h, _⟩ | ⟨h, _⟩ | ⟨h, _⟩ | h
  · exact ⟨0, by decide, h⟩
  · exact ⟨1, by decide, h⟩
  · exact ⟨2, by decide, h⟩
  · exact ⟨3, by decide, h⟩
  · exact ⟨4, by decide, h⟩
  · exact ⟨5, by decide, h⟩
  · exact ⟨6, by decide, h⟩
  · exact ⟨7, by decide, h⟩
  · exact ⟨8, by decide, h⟩
/-- the place that an instruction writes (6 + c: the cell c; -1: none), the value, the next instruction, the places afterwards -/
def td_w (o x y : Int32) (m : Nat → Int32) : Int32 :=
  if o = 5 then 6 + (m y.toNatClampNeg &&& 7) else if o < 5 then x else -1
def td_v (o x y z : Int32) (m : Nat → Int32) : Int32 :=
  if o = 0 then y else if o = 1 then m y.toNatClampNeg + m z.toNatClampNeg else if o = 2 then m y.toNatClampNeg - m z.toNatClampNeg
  else if o = 3 then m y.toNatClampNeg * m z.toNatClampNeg else if o = 4 then m (6 + (m y.toNatClampNeg &&& 7)).toNatClampNeg else m x.toNatClampNeg
def td_n (o x y : Int32) (i : Nat) (m : Nat → Int32) : Nat :=
  if o = 6 then (if 0 < m x.toNatClampNeg then y.toNatClampNeg else i + 1) else if o = 7 then x.toNatClampNeg else if o = 8 then i else i + 1
def td_m (o x y z : Int32) (m : Nat → Int32) : Nat → Int32 :=
  if td_w o x y m = -1 then m else upd m (td_w o x y m).toNatClampNeg (td_v o x y z m)
def td_st (op ax ay az : Nat → Int32) (inp : Int32) : Nat → Nat × (Nat → Int32)
  | 0 => (0, fun p => if p = 5 then inp else 0)
  | t + 1 => (td_n (op (td_st op ax ay az inp t).1) (ax (td_st op ax ay az inp t).1) (ay (td_st op ax ay az inp t).1) (td_st op ax ay az inp t).1 (td_st op ax ay az inp t).2,
      td_m (op (td_st op ax ay az inp t).1) (ax (td_st op ax ay az inp t).1) (ay (td_st op ax ay az inp t).1) (az (td_st op ax ay az inp t).1) (td_st op ax ay az inp t).2)
/-- pc, me, wr: the next instruction and the places at each time, the place that each step writes -/
def td_Tr (op ax ay az : Nat → Int32) (inp : Int32) (pc : Nat → Nat) (me : Nat → Nat → Int32) (wr : Nat → Int32) : Prop :=
  pc 0 = 0 ∧ (∀ p, me 0 p = if p = 5 then inp else 0) ∧
  ∀ t, pc (t + 1) = td_n (op (pc t)) (ax (pc t)) (ay (pc t)) (pc t) (me t) ∧ me (t + 1) = td_m (op (pc t)) (ax (pc t)) (ay (pc t)) (az (pc t)) (me t) ∧ wr (t + 1) = td_w (op (pc t)) (ax (pc t)) (ay (pc t)) (me t)
theorem td_TrE (op ax ay az : Nat → Int32) (inp : Int32) : ∃ pc me wr, td_Tr op ax ay az inp pc me wr :=
  ⟨fun t => (td_st op ax ay az inp t).1, fun t => (td_st op ax ay az inp t).2,
    fun t => td_w (op (td_st op ax ay az inp (t - 1)).1) (ax (td_st op ax ay az inp (t - 1)).1) (ay (td_st op ax ay az inp (t - 1)).1) (td_st op ax ay az inp (t - 1)).2,
    rfl, fun _ => rfl, fun _ => ⟨rfl, rfl, rfl⟩⟩
def td_Pg (n : Nat) (op ax ay az : Nat → Int32) : Prop := n ≤ 20 ∧ ∀ i, i < n → td_ok (op i) (ax i) (ay i) (az i)
/-- step t was a HALT -/
def td_ha (op : Nat → Int32) (pc : Nat → Nat) : Nat → Prop
  | 0 => False
  | t + 1 => op (pc t) = 8
def td_Run (n : Nat) (op : Nat → Int32) (pc : Nat → Nat) (T : Nat) : Prop :=
  T ≤ 200 ∧ (∀ t, t < T → ¬ td_ha op pc t ∧ pc t < n) ∧ (T = 200 ∨ td_ha op pc T ∨ n ≤ pc T)
/-- the component's tables up to the time s -/
def td_Tab (pc : Nat → Nat) (me : Nat → Nat → Int32) (wr : Nat → Int32) (s : Nat) (va na wb : Nat → Int32) : Prop :=
  (∀ t, t ≤ s → na t = nI (pc t)) ∧ (∀ t, t ≤ s → ∀ p, p < 14 → va (t * 14 + p) = me t p) ∧ (∀ t, 0 < t → t ≤ s → wb t = wr t)
/-- the last of the steps 1 .. s that wrote the place q -/
def td_last (wr : Nat → Int32) (q : Int32) : Nat → Nat
  | 0 => 0
  | s + 1 => if wr (s + 1) = q then s + 1 else td_last wr q s
theorem td_last_le (wr : Nat → Int32) (q : Int32) : ∀ s, td_last wr q s ≤ s
  | 0 => Nat.le_refl 0
  | s + 1 => by
    unfold td_last
    have := td_last_le wr q s
    split <;> omega
theorem td_and7 (x : Int32) : ∃ j : Nat, j < 8 ∧ x &&& 7 = nI j := pk_andE x 3 (by decide)
theorem td_6 (j : Nat) : (6 : Int32) + nI j = nI (6 + j) := nI_add 6 j
theorem td_Lpc {x : Int32} (h : td_L x) : x.toNatClampNeg < 20 ∧ nI x.toNatClampNeg = x := by
  obtain ⟨j, hj, rfl⟩ := h
  rw [nI_clamp (by omega)]
  exact ⟨hj, rfl⟩
theorem td_pcB {n : Nat} {op ax ay az : Nat → Int32} {inp : Int32} {pc : Nat → Nat} {me : Nat → Nat → Int32} {wr : Nat → Int32}
    (hP : td_Pg n op ax ay az) (hT : td_Tr op ax ay az inp pc me wr) {t : Nat} (h : pc t < n) : pc (t + 1) ≤ 20 := by
  have hn := hP.1
  rw [(hT.2.2 t).1]
  unfold td_n
  rcases hP.2 _ h with ⟨e, _⟩ | ⟨e, _⟩ | ⟨e, _⟩ | ⟨e, _⟩ | ⟨e, _⟩ | ⟨e, _⟩ | ⟨e, _, hL⟩ | ⟨e, hL⟩ | e <;> rw [e]
  · simp; omega
  · simp; omega
  · simp; omega
  · simp; omega
  · simp; omega
  · simp; omega
  · have := (td_Lpc hL).1
    simp
    split <;> omega
  · have := (td_Lpc hL).1
    simp
    omega
  · simp; omega
theorem td_pc20 {n T : Nat} {op ax ay az : Nat → Int32} {inp : Int32} {pc : Nat → Nat} {me : Nat → Nat → Int32} {wr : Nat → Int32}
    (hP : td_Pg n op ax ay az) (hT : td_Tr op ax ay az inp pc me wr) (hR : td_Run n op pc T) : ∀ t, t ≤ T → pc t ≤ 20
  | 0, _ => by rw [hT.1]; omega
  | t + 1, h => td_pcB hP hT (hR.2.1 t (by omega)).2
