section
theorem pk_us {f : Nat → Int32} {k : Nat} {x : Int32} : upd f k x k = x := if_pos rfl
theorem pk_un {f : Nat → Int32} {k j : Nat} {x : Int32} (h : j ≠ k) : upd f k x j = f j := if_neg h
theorem pk_sub {a b : Nat} (h : b ≤ a) : nI a - nI b = nI (a - b) := by
  obtain ⟨c, rfl⟩ : ∃ c, a = c + b := ⟨a - b, by omega⟩
  rw [← nI_add, Int32.add_sub_cancel, Nat.add_sub_cancel]
theorem pk_m1 (n : Nat) : nI (n + 1) + (-1) = nI n := by
  rw [← nI_1, Int32.add_assoc, show (1 : Int32) + (-1) = 0 from rfl, Int32.add_zero]
theorem pk_mul (a b : Nat) : nI a * nI b = nI (a * b) := (Int32.ofNat_mul a b).symm
theorem pk_ix (x : Int32) {n : Nat} (hn : n < 2 ^ 31) : x < 0 ∨ nI n ≤ x ∨ ∃ j : Nat, j < n ∧ x = nI j := by
  by_cases h : x < 0
  · exact Or.inl h
  · obtain ⟨j, hj, rfl⟩ := nI_of h
    by_cases h2 : j < n
    · exact Or.inr (Or.inr ⟨j, h2, rfl⟩)
    · exact Or.inr (Or.inl (nI_le (by omega) hj))
theorem pk_le {x y : Int32} {A B : Prop} (a b : Nat) (f : a ≤ b → A) (g : b < a → B) (hx : x = nI a := by rfl) (hy : y = nI b := by rfl) (ha : a < 2 ^ 31 := by omega) (hb : b < 2 ^ 31 := by omega) : (x ≤ y → A) ∧ (¬ x ≤ y → B) := by
  subst hx hy
  rw [nI_leI ha hb]
  exact ⟨f, fun z => g (by omega)⟩
theorem pk_lt {x y : Int32} {A B : Prop} (a b : Nat) (f : a < b → A) (g : b ≤ a → B) (hx : x = nI a := by rfl) (hy : y = nI b := by rfl) (ha : a < 2 ^ 31 := by omega) (hb : b < 2 ^ 31 := by omega) : (x < y → A) ∧ (¬ x < y → B) := by
  subst hx hy
  rw [nI_ltI ha hb]
  exact ⟨f, fun z => g (by omega)⟩
theorem pk_eq {x y : Int32} {A B : Prop} (a b : Nat) (f : a = b → A) (g : a ≠ b → B) (hx : x = nI a := by rfl) (hy : y = nI b := by rfl) (ha : a < 2 ^ 31 := by omega) (hb : b < 2 ^ 31 := by omega) : (x = y → A) ∧ (¬ x = y → B) := by
  subst hx hy
  rw [nI_eq ha hb]
  exact ⟨f, g⟩
theorem pk_in {x : Int32} (n N : Nat) (h : n < N) (hx : x = nI n := by rfl) (hN : N < 2 ^ 31 := by omega) : vp_in x N := by
  subst hx
  exact vp_in_nI h hN
theorem pk_cl {x : Int32} (n : Nat) (hx : x = nI n := by rfl) (h : n < 2 ^ 31 := by omega) : x.toNatClampNeg = n := by
  subst hx
  exact nI_clamp h
theorem pk_tn {n : Nat} (h : n < 2 ^ 32) : (nI n).toBitVec.toNat = n := Nat.mod_eq_of_lt h
theorem pk_and (x : Int32) {m : Int32} (k : Nat) (hm : m.toBitVec.toNat = 2 ^ k - 1) : x &&& m = nI (x.toBitVec.toNat % 2 ^ k) := by
  apply Int32.toBitVec_inj.mp
  apply BitVec.eq_of_toNat_eq
  rw [Int32.toBitVec_and, BitVec.toNat_and, hm, Nat.and_two_pow_sub_one_eq_mod]
  show _ = (BitVec.ofNat 32 _).toNat
  rw [BitVec.toNat_ofNat]
  exact (Nat.mod_eq_of_lt (Nat.lt_of_le_of_lt (Nat.mod_le _ _) x.toBitVec.isLt)).symm
theorem pk_andE (x : Int32) {m : Int32} (k : Nat) (hm : m.toBitVec.toNat = 2 ^ k - 1) : ∃ j : Nat, j < 2 ^ k ∧ x &&& m = nI j := ⟨_, Nat.mod_lt _ (Nat.two_pow_pos k), pk_and x k hm⟩
theorem pk_loop {σ : Type} (W : Nat → Nat → σ → Prop) (I : Nat → σ → Prop) (e i0 : Nat) (s : σ) (hi : i0 ≤ e) (h0 : I i0 s) (hx : ∀ n s, I e s → W (n + 1) e s)
    (hs : ∀ n i s, i < e → I i s → (∀ s', I (i + 1) s' → W n (i + 1) s') → W (n + 1) i s) : ∃ n, W n i0 s :=
  ⟨e + 1, loop_i W I e hx hs (e + 1) i0 s hi (by omega) h0⟩
theorem pk_loopD {σ : Type} (W : Nat → Nat → σ → Prop) (I : Nat → σ → Prop) (hx : ∀ n s, I 0 s → W (n + 1) 0 s)
    (hs : ∀ n i s, I (i + 1) s → (∀ s', I i s' → W n i s') → W (n + 1) (i + 1) s) : ∀ (e : Nat) (s : σ), I e s → W (e + 1) e s := by
  intro e
  induction e with
  | zero => exact fun s h => hx 0 s h
  | succ e ih => exact fun s h => hs (e + 1) e s h (fun s' h' => ih s' h')
end
section
/-- a variable's number; an instruction's number; a cell's number -/
def td_V (x : Int32) : Prop := ∃ j : Nat, j < 6 ∧ x = nI j
def td_L (x : Int32) : Prop := ∃ j : Nat, j < 20 ∧ x = nI j
def td_C (x : Int32) : Prop := ∃ j : Nat, j < 8 ∧ x = nI j
/-- what emit takes -/
def td_ok (o x y z : Int32) : Prop :=
  (o = 0 ∧ td_V x) ∨ (o = 1 ∧ td_V x ∧ td_V y ∧ td_V z) ∨ (o = 2 ∧ td_V x ∧ td_V y ∧ td_V z) ∨ (o = 3 ∧ td_V x ∧ td_V y ∧ td_V z) ∨
  (o = 4 ∧ td_V x ∧ td_V y) ∨ (o = 5 ∧ td_V x ∧ td_V y) ∨ (o = 6 ∧ td_V x ∧ td_L y) ∨ (o = 7 ∧ td_L x) ∨ o = 8
theorem td_rng {x : Int32} {n : Nat} (hn : n < 2 ^ 31) : (∃ j : Nat, j < n ∧ x = nI j) ↔ (¬ x < 0 ∧ x < nI n) := by
  constructor
  · rintro ⟨j, hj, rfl⟩
    exact ⟨nI_pos (by omega), nI_lt hj hn⟩
  · rintro ⟨h0, h⟩
    obtain ⟨j, hj, rfl⟩ := nI_of h0
    exact ⟨j, (nI_ltI hj hn).mp h, rfl⟩
theorem td_V_lt {x : Int32} : td_V x ↔ (¬ x < 0 ∧ x < 6) := td_rng (n := 6) (by decide)
theorem td_L_lt {x : Int32} : td_L x ↔ (¬ x < 0 ∧ x < 20) := td_rng (n := 20) (by decide)
theorem td_C_lt {x : Int32} : td_C x ↔ (¬ x < 0 ∧ x < 8) := td_rng (n := 8) (by decide)
theorem td_rng' {x : Int32} {n : Nat} (hn : n + 1 < 2 ^ 31) : (∃ j : Nat, j < n + 1 ∧ x = nI j) ↔ (¬ x < 0 ∧ x ≤ nI n) := by
  constructor
  · rintro ⟨j, hj, rfl⟩
    exact ⟨nI_pos (by omega), nI_le (by omega) (by omega)⟩
  · rintro ⟨h0, h⟩
    obtain ⟨j, hj, rfl⟩ := nI_of h0
    have := (nI_leI hj (by omega)).mp h
    exact ⟨j, by omega, rfl⟩
theorem td_V_le {x : Int32} : td_V x ↔ (¬ x < 0 ∧ x ≤ 5) := td_rng' (n := 5) (by decide)
theorem td_L_le {x : Int32} : td_L x ↔ (¬ x < 0 ∧ x ≤ 19) := td_rng' (n := 19) (by decide)
theorem td_C_le {x : Int32} : td_C x ↔ (¬ x < 0 ∧ x ≤ 7) := td_rng' (n := 7) (by decide)
theorem td_ok0 {x y z : Int32} : td_ok 0 x y z ↔ td_V x := by
  unfold td_ok
  exact ⟨by rintro (⟨_, h⟩ | ⟨h, _⟩ | ⟨h, _⟩ | ⟨h, _⟩ | ⟨h, _⟩ | ⟨h, _⟩ | ⟨h, _⟩ | ⟨h, _⟩ | h) <;> first | exact h | exact absurd h (by decide), fun h => Or.inl ⟨rfl, h⟩⟩
theorem td_ok1 {x y z : Int32} : td_ok 1 x y z ↔ td_V x ∧ td_V y ∧ td_V z := by
  unfold td_ok
  exact ⟨by rintro (⟨h, _⟩ | ⟨_, h⟩ | ⟨h, _⟩ | ⟨h, _⟩ | ⟨h, _⟩ | ⟨h, _⟩ | ⟨h, _⟩ | ⟨h, _⟩ | h) <;> first | exact h | exact absurd h (by decide), fun h => Or.inr (Or.inl ⟨rfl, h⟩)⟩
theorem td_ok2 {x y z : Int32} : td_ok 2 x y z ↔ td_V x ∧ td_V y ∧ td_V z := by
  unfold td_ok
  exact ⟨by rintro (⟨h, _⟩ | ⟨h, _⟩ | ⟨_, h⟩ | ⟨h, _⟩ | ⟨h, _⟩ | ⟨h, _⟩ | ⟨h, _⟩ | ⟨h, _⟩ | h) <;> first | exact h | exact absurd h (by decide), fun h => Or.inr (Or.inr (Or.inl ⟨rfl, h⟩))⟩
theorem td_ok3 {x y z : Int32} : td_ok 3 x y z ↔ td_V x ∧ td_V y ∧ td_V z := by
  unfold td_ok
  exact ⟨by rintro (⟨h, _⟩ | ⟨h, _⟩ | ⟨h, _⟩ | ⟨_, h⟩ | ⟨h, _⟩ | ⟨h, _⟩ | ⟨h, _⟩ | ⟨h, _⟩ | h) <;> first | exact h | exact absurd h (by decide), fun h => Or.inr (Or.inr (Or.inr (Or.inl ⟨rfl, h⟩)))⟩
theorem td_ok4 {x y z : Int32} : td_ok 4 x y z ↔ td_V x ∧ td_V y := by
  unfold td_ok
  exact ⟨by rintro (⟨h, _⟩ | ⟨h, _⟩ | ⟨h, _⟩ | ⟨h, _⟩ | ⟨_, h⟩ | ⟨h, _⟩ | ⟨h, _⟩ | ⟨h, _⟩ | h) <;> first | exact h | exact absurd h (by decide), fun h => Or.inr (Or.inr (Or.inr (Or.inr (Or.inl ⟨rfl, h⟩))))⟩
theorem td_ok5 {x y z : Int32} : td_ok 5 x y z ↔ td_V x ∧ td_V y := by
  unfold td_ok
  exact ⟨by rintro (⟨h, _⟩ | ⟨h, _⟩ | ⟨h, _⟩ | ⟨h, _⟩ | ⟨h, _⟩ | ⟨_, h⟩ | ⟨h, _⟩ | ⟨h, _⟩ | h) <;> first | exact h | exact absurd h (by decide), fun h => Or.inr (Or.inr (Or.inr (Or.inr (Or.inr (Or.inl ⟨rfl, h⟩)))))⟩
theorem td_ok6 {x y z : Int32} : td_ok 6 x y z ↔ td_V x ∧ td_L y := by
  unfold td_ok
  exact ⟨by rintro (⟨h, _⟩ | ⟨h, _⟩ | ⟨h, _⟩ | ⟨h, _⟩ | ⟨h, _⟩ | ⟨h, _⟩ | ⟨_, h⟩ | ⟨h, _⟩ | h) <;> first | exact h | exact absurd h (by decide), fun h => Or.inr (Or.inr (Or.inr (Or.inr (Or.inr (Or.inr (Or.inl ⟨rfl, h⟩))))))⟩
theorem td_ok7 {x y z : Int32} : td_ok 7 x y z ↔ td_L x := by
  unfold td_ok
  exact ⟨by rintro (⟨h, _⟩ | ⟨h, _⟩ | ⟨h, _⟩ | ⟨h, _⟩ | ⟨h, _⟩ | ⟨h, _⟩ | ⟨h, _⟩ | ⟨_, h⟩ | h) <;> first | exact h | exact absurd h (by decide), fun h => Or.inr (Or.inr (Or.inr (Or.inr (Or.inr (Or.inr (Or.inr (Or.inl ⟨rfl, h⟩)))))))⟩
theorem td_ok8 {x y z : Int32} : td_ok 8 x y z := Or.inr (Or.inr (Or.inr (Or.inr (Or.inr (Or.inr (Or.inr (Or.inr rfl)))))))
theorem td_okR {o x y z : Int32} (h : td_ok o x y z) : ∃ j : Nat, j < 9 ∧ o = nI j := by
  rcases h with ⟨h, _⟩ | ⟨h, _⟩ | ⟨h, _⟩ | ⟨h, _⟩ | ⟨h, _⟩ | ⟨h, _⟩ | ⟨h, _⟩ | ⟨h, _⟩ | h
  · exact ⟨0, by decide, h⟩
  · exact ⟨1, by decide, h⟩
  · exact ⟨2, by decide, h⟩
  · exact ⟨3, by decide, h⟩
  · exact ⟨4, by decide, h⟩
  · exact ⟨5, by decide, h⟩
  · exact ⟨6, by decide, h⟩
  · exact ⟨7, by decide, h⟩
  · exact ⟨8, by decide, h⟩
/-- the place that an instruction writes (6 + c: the cell c; -1: none), the value, the next instruction, the places afterwards -/
def td_w (o x y : Int32) (m : Nat → Int32) : Int32 :=
  if o = 5 then 6 + (m y.toNatClampNeg &&& 7) else if o < 5 then x else -1
def td_v (o x y z : Int32) (m : Nat → Int32) : Int32 :=
  if o = 0 then y else if o = 1 then m y.toNatClampNeg + m z.toNatClampNeg else if o = 2 then m y.toNatClampNeg - m z.toNatClampNeg
  else if o = 3 then m y.toNatClampNeg * m z.toNatClampNeg else if o = 4 then m (6 + (m y.toNatClampNeg &&& 7)).toNatClampNeg else m x.toNatClampNeg
def td_n (o x y : Int32) (i : Nat) (m : Nat → Int32) : Nat :=
  if o = 6 then (if 0 < m x.toNatClampNeg then y.toNatClampNeg else i + 1) else if o = 7 then x.toNatClampNeg else if o = 8 then i else i + 1
def td_m (o x y z : Int32) (m : Nat → Int32) : Nat → Int32 :=
  if td_w o x y m = -1 then m else upd m (td_w o x y m).toNatClampNeg (td_v o x y z m)
def td_st (op ax ay az : Nat → Int32) (inp : Int32) : Nat → Nat × (Nat → Int32)
  | 0 => (0, fun p => if p = 5 then inp else 0)
  | t + 1 => (td_n (op (td_st op ax ay az inp t).1) (ax (td_st op ax ay az inp t).1) (ay (td_st op ax ay az inp t).1) (td_st op ax ay az inp t).1 (td_st op ax ay az inp t).2,
      td_m (op (td_st op ax ay az inp t).1) (ax (td_st op ax ay az inp t).1) (ay (td_st op ax ay az inp t).1) (az (td_st op ax ay az inp t).1) (td_st op ax ay az inp t).2)
/-- pc, me, wr: the next instruction and the places at each time, the place that each step writes -/
def td_Tr (op ax ay az : Nat → Int32) (inp : Int32) (pc : Nat → Nat) (me : Nat → Nat → Int32) (wr : Nat → Int32) : Prop :=
  pc 0 = 0 ∧ (∀ p, me 0 p = if p = 5 then inp else 0) ∧
  ∀ t, pc (t + 1) = td_n (op (pc t)) (ax (pc t)) (ay (pc t)) (pc t) (me t) ∧ me (t + 1) = td_m (op (pc t)) (ax (pc t)) (ay (pc t)) (az (pc t)) (me t) ∧ wr (t + 1) = td_w (op (pc t)) (ax (pc t)) (ay (pc t)) (me t)
theorem td_TrE (op ax ay az : Nat → Int32) (inp : Int32) : ∃ pc me wr, td_Tr op ax ay az inp pc me wr :=
  ⟨fun t => (td_st op ax ay az inp t).1, fun t => (td_st op ax ay az inp t).2,
    fun t => td_w (op (td_st op ax ay az inp (t - 1)).1) (ax (td_st op ax ay az inp (t - 1)).1) (ay (td_st op ax ay az inp (t - 1)).1) (td_st op ax ay az inp (t - 1)).2,
    rfl, fun _ => rfl, fun _ => ⟨rfl, rfl, rfl⟩⟩
def td_Pg (n : Nat) (op ax ay az : Nat → Int32) : Prop := n ≤ 20 ∧ ∀ i, i < n → td_ok (op i) (ax i) (ay i) (az i)
/-- step t was a HALT -/
def td_ha (op : Nat → Int32) (pc : Nat → Nat) : Nat → Prop
  | 0 => False
  | t + 1 => op (pc t) = 8
def td_Run (n : Nat) (op : Nat → Int32) (pc : Nat → Nat) (T : Nat) : Prop :=
  T ≤ 200 ∧ (∀ t, t < T → ¬ td_ha op pc t ∧ pc t < n) ∧ (T = 200 ∨ td_ha op pc T ∨ n ≤ pc T)
/-- the component's tables up to the time s -/
def td_Tab (pc : Nat → Nat) (me : Nat → Nat → Int32) (wr : Nat → Int32) (s : Nat) (va na wb : Nat → Int32) : Prop :=
  (∀ t, t ≤ s → na t = nI (pc t)) ∧ (∀ t, t ≤ s → ∀ p, p < 14 → va (t * 14 + p) = me t p) ∧ (∀ t, 0 < t → t ≤ s → wb t = wr t)
/-- the last of the steps 1 .. s that wrote the place q -/
def td_last (wr : Nat → Int32) (q : Int32) : Nat → Nat
  | 0 => 0
  | s + 1 => if wr (s + 1) = q then s + 1 else td_last wr q s
theorem td_last_le (wr : Nat → Int32) (q : Int32) : ∀ s, td_last wr q s ≤ s
  | 0 => Nat.le_refl 0
  | s + 1 => by
    unfold td_last
    have := td_last_le wr q s
    split <;> omega
theorem td_and7 (x : Int32) : ∃ j : Nat, j < 8 ∧ x &&& 7 = nI j := pk_andE x 3 (by decide)
theorem td_6 (j : Nat) : (6 : Int32) + nI j = nI (6 + j) := nI_add 6 j
theorem td_Lpc {x : Int32} (h : td_L x) : x.toNatClampNeg < 20 ∧ nI x.toNatClampNeg = x := by
  obtain ⟨j, hj, rfl⟩ := h
  rw [nI_clamp (by omega)]
  exact ⟨hj, rfl⟩
theorem td_pcB {n : Nat} {op ax ay az : Nat → Int32} {inp : Int32} {pc : Nat → Nat} {me : Nat → Nat → Int32} {wr : Nat → Int32}
    (hP : td_Pg n op ax ay az) (hT : td_Tr op ax ay az inp pc me wr) {t : Nat} (h : pc t < n) : pc (t + 1) ≤ 20 := by
  have hn := hP.1
  rw [(hT.2.2 t).1]
  unfold td_n
  rcases hP.2 _ h with ⟨e, _⟩ | ⟨e, _⟩ | ⟨e, _⟩ | ⟨e, _⟩ | ⟨e, _⟩ | ⟨e, _⟩ | ⟨e, _, hL⟩ | ⟨e, hL⟩ | e <;> rw [e]
  · simp; omega
  · simp; omega
  · simp; omega
  · simp; omega
  · simp; omega
  · simp; omega
  · have := (td_Lpc hL).1
    simp
    split <;> omega
  · have := (td_Lpc hL).1
    simp
    omega
  · simp; omega
theorem td_pc20 {n T : Nat} {op ax ay az : Nat → Int32} {inp : Int32} {pc : Nat → Nat} {me : Nat → Nat → Int32} {wr : Nat → Int32}
    (hP : td_Pg n op ax ay az) (hT : td_Tr op ax ay az inp pc me wr) (hR : td_Run n op pc T) : ∀ t, t ≤ T → pc t ≤ 20
  | 0, _ => by rw [hT.1]; omega
  | t + 1, h => td_pcB hP hT (hR.2.1 t (by omega)).2
end
section
theorem td_w0 (x y : Int32) (m : Nat → Int32) : td_w 0 x y m = x := by simp [td_w]
theorem td_v0 (x y z : Int32) (m : Nat → Int32) : td_v 0 x y z m = y := by simp [td_v]
theorem td_n0 (x y : Int32) (i : Nat) (m : Nat → Int32) : td_n 0 x y i m = i + 1 := by simp [td_n]
theorem td_w1 (x y : Int32) (m : Nat → Int32) : td_w 1 x y m = x := by simp [td_w]
theorem td_v1 (x y z : Int32) (m : Nat → Int32) : td_v 1 x y z m = m y.toNatClampNeg + m z.toNatClampNeg := by simp [td_v]
theorem td_n1 (x y : Int32) (i : Nat) (m : Nat → Int32) : td_n 1 x y i m = i + 1 := by simp [td_n]
theorem td_w2 (x y : Int32) (m : Nat → Int32) : td_w 2 x y m = x := by simp [td_w]
theorem td_v2 (x y z : Int32) (m : Nat → Int32) : td_v 2 x y z m = m y.toNatClampNeg - m z.toNatClampNeg := by simp [td_v]
theorem td_n2 (x y : Int32) (i : Nat) (m : Nat → Int32) : td_n 2 x y i m = i + 1 := by simp [td_n]
theorem td_w3 (x y : Int32) (m : Nat → Int32) : td_w 3 x y m = x := by simp [td_w]
theorem td_v3 (x y z : Int32) (m : Nat → Int32) : td_v 3 x y z m = m y.toNatClampNeg * m z.toNatClampNeg := by simp [td_v]
theorem td_n3 (x y : Int32) (i : Nat) (m : Nat → Int32) : td_n 3 x y i m = i + 1 := by simp [td_n]
theorem td_w4 (x y : Int32) (m : Nat → Int32) : td_w 4 x y m = x := by simp [td_w]
theorem td_v4 (x y z : Int32) (m : Nat → Int32) : td_v 4 x y z m = m (6 + (m y.toNatClampNeg &&& 7)).toNatClampNeg := by simp [td_v]
theorem td_n4 (x y : Int32) (i : Nat) (m : Nat → Int32) : td_n 4 x y i m = i + 1 := by simp [td_n]
theorem td_w5 (x y : Int32) (m : Nat → Int32) : td_w 5 x y m = 6 + (m y.toNatClampNeg &&& 7) := by simp [td_w]
theorem td_v5 (x y z : Int32) (m : Nat → Int32) : td_v 5 x y z m = m x.toNatClampNeg := by simp [td_v]
theorem td_n5 (x y : Int32) (i : Nat) (m : Nat → Int32) : td_n 5 x y i m = i + 1 := by simp [td_n]
theorem td_w6 (x y : Int32) (m : Nat → Int32) : td_w 6 x y m = -1 := by simp [td_w]
theorem td_n6 (x y : Int32) (i : Nat) (m : Nat → Int32) : td_n 6 x y i m = if 0 < m x.toNatClampNeg then y.toNatClampNeg else i + 1 := by simp [td_n]
theorem td_w7 (x y : Int32) (m : Nat → Int32) : td_w 7 x y m = -1 := by simp [td_w]
theorem td_n7 (x y : Int32) (i : Nat) (m : Nat → Int32) : td_n 7 x y i m = x.toNatClampNeg := by simp [td_n]
theorem td_w8 (x y : Int32) (m : Nat → Int32) : td_w 8 x y m = -1 := by simp [td_w]
theorem td_n8 (x y : Int32) (i : Nat) (m : Nat → Int32) : td_n 8 x y i m = i := by simp [td_n]
theorem td_Xvar {post : Int32 → Prop} {x : Int32} (h1 : td_V x → post 1) (h0 : ¬ td_V x → post 0) : wpX_isVariable post x := by
  unfold wpX_isVariable
  exact br_c (fun h => h0 fun z => (td_V_lt.mp z).1 h) fun h => br_c (fun g => h0 fun z => absurd (td_V_lt.mp z).2 (Int32.not_lt.mpr g)) fun g => h1 (td_V_lt.mpr ⟨h, Int32.not_le.mp g⟩)
theorem td_Xins_no {post : Int32 → Prop} {x : Int32} (h1 : td_L x → post 1) (h0 : ¬ td_L x → post 0) : wpX_isInstructionNumber post x := by
  unfold wpX_isInstructionNumber
  exact br_c (fun h => h0 fun z => (td_L_lt.mp z).1 h) fun h => br_c (fun g => h0 fun z => absurd (td_L_lt.mp z).2 (Int32.not_lt.mpr g)) fun g => h1 (td_L_lt.mpr ⟨h, Int32.not_le.mp g⟩)
theorem td_Xcell {post : Int32 → Prop} {x : Int32} (h1 : td_C x → post 1) (h0 : ¬ td_C x → post 0) : wpX_isCell post x := by
  unfold wpX_isCell
  exact br_c (fun h => h0 fun z => (td_C_lt.mp z).1 h) fun h => br_c (fun g => h0 fun z => absurd (td_C_lt.mp z).2 (Int32.not_lt.mpr g)) fun g => h1 (td_C_lt.mpr ⟨h, Int32.not_le.mp g⟩)
theorem td_X57 {post : Int32 → Prop} {x y z : Int32} (h1 : td_V x ∧ td_V y ∧ td_V z → post 1) (h0 : ¬ (td_V x ∧ td_V y ∧ td_V z) → post 0) : wX_isInstruction_57 post x y z := by
  unfold wX_isInstruction_57
  refine td_Xvar (fun hx => br_f (by decide) (td_Xvar (fun hy => br_f (by decide) (td_Xvar (fun hz => br_f (by decide) (h1 ⟨hx, hy, hz⟩)) (fun g => br_t rfl (h0 fun z => g z.2.2)))) (fun g => br_t rfl (h0 fun z => g z.2.1)))) (fun g => br_t rfl (h0 fun z => g z.1))
theorem td_X84 {post : Int32 → Prop} {x y : Int32} (h1 : td_V x ∧ td_V y → post 1) (h0 : ¬ (td_V x ∧ td_V y) → post 0) : wX_isInstruction_84 post x y := by
  unfold wX_isInstruction_84
  refine td_Xvar (fun hx => br_f (by decide) (td_Xvar (fun hy => br_f (by decide) (h1 ⟨hx, hy⟩)) (fun g => br_t rfl (h0 fun z => g z.2)))) (fun g => br_t rfl (h0 fun z => g z.1))
theorem td_Xins {post : Int32 → Prop} {o x y z : Int32} (h1 : td_ok o x y z → post 1) (h0 : ¬ td_ok o x y z → post 0) : wpX_isInstruction post o x y z := by
  unfold wpX_isInstruction
  refine br_c (fun h => h0 fun g => ?_) fun _ => br_c (fun h => h0 fun g => ?_) fun _ => ?_
  · obtain ⟨j, hj, rfl⟩ := td_okR g
    exact absurd h (nI_pos (by omega))
  · obtain ⟨j, hj, rfl⟩ := td_okR g
    exact absurd h (nI_nlt (a := 8) (by omega) (by decide))
  refine br_c (fun e => ?_) fun _ => br_c (fun e => ?_) fun _ => br_c (fun e => ?_) fun _ => br_c (fun e => ?_) fun _ => br_c (fun e => ?_) fun _ => br_c (fun e => ?_) fun _ => br_c (fun e => ?_) fun _ => br_c (fun e => ?_) fun _ => br_c (fun e => ?_) fun _ => trivial
  · subst e
    exact td_Xvar (fun h => ⟨rfl, h1 (td_ok0.mpr h)⟩) (fun h => ⟨rfl, h0 fun g => h (td_ok0.mp g)⟩)
  · subst e
    exact td_X57 (fun h => h1 (td_ok1.mpr h)) (fun h => h0 fun g => h (td_ok1.mp g))
  · subst e
    exact td_X57 (fun h => h1 (td_ok2.mpr h)) (fun h => h0 fun g => h (td_ok2.mp g))
  · subst e
    exact td_X57 (fun h => h1 (td_ok3.mpr h)) (fun h => h0 fun g => h (td_ok3.mp g))
  · subst e
    exact td_X84 (fun h => h1 (td_ok4.mpr h)) (fun h => h0 fun g => h (td_ok4.mp g))
  · subst e
    exact td_X84 (fun h => h1 (td_ok5.mpr h)) (fun h => h0 fun g => h (td_ok5.mp g))
  · subst e
    exact td_Xvar (fun hx => br_f (by decide) (td_Xins_no (fun hy => br_f (by decide) (h1 (td_ok6.mpr ⟨hx, hy⟩))) (fun h => br_t rfl (h0 fun g => h (td_ok6.mp g).2)))) (fun h => br_t rfl (h0 fun g => h (td_ok6.mp g).1))
  · subst e
    exact td_Xins_no (fun h => ⟨rfl, h1 (td_ok7.mpr h)⟩) (fun h => ⟨rfl, h0 fun g => h (td_ok7.mp g)⟩)
  · subst e
    exact h1 td_ok8
section
variable {ic sc nw : Int32} {op xo yo zo va na wb : Nat → Int32} {m : Nat → Int32} {i b : Nat}
/-- reading the place p of the row of the table that begins at b -/
theorem td_rd (hb : b + 14 ≤ 2814) (hm : ∀ p, p < 14 → va (b + p) = m p) {p : Nat} (hp : p < 14) : vp_in (nI b + nI p) 2814 ∧ va (nI b + nI p).toNatClampNeg = m p := by
  rw [nI_add, nI_clamp (by omega)]
  exact ⟨vp_in_nI (by omega) (by decide), hm p hp⟩
theorem td_Xcn {post : Int32 → Prop} (hb : b + 14 ≤ 2814) (hm : ∀ p, p < 14 → va (b + p) = m p) {y : Int32} (hy : td_V y) (h : post (6 + (m y.toNatClampNeg &&& 7))) :
    wpX_cellNamedBy post (ic, sc, nw, op, xo, yo, zo, va, na, wb) y (nI b) := by
  obtain ⟨j, hj, rfl⟩ := hy
  have r := td_rd hb hm (p := j) (by omega)
  rw [nI_clamp (by omega)] at h
  unfold wpX_cellNamedBy
  dsimp only
  rw [r.2]
  exact ⟨r.1, h⟩
theorem td_Xpw {post : Int32 → Prop} (hi : i < 20) (hok : td_ok (op i) (xo i) (yo i) (zo i)) (hb : b + 14 ≤ 2814) (hm : ∀ p, p < 14 → va (b + p) = m p)
    (h : post (td_w (op i) (xo i) (yo i) m)) : wpX_placeWritten post (ic, sc, nw, op, xo, yo, zo, va, na, wb) (nI i) (nI b) := by
  have hin : vp_in (nI i) 20 := vp_in_nI hi (by decide)
  unfold wpX_placeWritten
  dsimp only
  rw [nI_clamp (show i < 2 ^ 31 by omega)]
  refine ⟨hin, nm_e ?_⟩
  rcases hok with ⟨e, hx⟩ | ⟨e, hx⟩ | ⟨e, hx⟩ | ⟨e, hx⟩ | ⟨e, hx⟩ | ⟨e, hx, hy⟩ | ⟨e, hx⟩ | ⟨e, hx⟩ | e <;> rw [e] at h ⊢
  · rw [td_w0] at h
    exact br_f (by decide) (br_f (by decide) (br_t rfl ⟨hin, h⟩))
  · rw [td_w1] at h
    exact br_f (by decide) (br_f (by decide) (br_f (by decide) (br_t rfl ⟨hin, h⟩)))
  · rw [td_w2] at h
    exact br_f (by decide) (br_f (by decide) (br_f (by decide) (br_f (by decide) (br_t rfl ⟨hin, h⟩))))
  · rw [td_w3] at h
    exact br_f (by decide) (br_f (by decide) (br_f (by decide) (br_f (by decide) (br_f (by decide) (br_t rfl ⟨hin, h⟩)))))
  · rw [td_w4] at h
    exact br_f (by decide) (br_f (by decide) (br_f (by decide) (br_f (by decide) (br_f (by decide) (br_f (by decide) (br_t rfl ⟨hin, h⟩))))))
  · rw [td_w5] at h
    exact br_f (by decide) (br_f (by decide) (br_f (by decide) (br_f (by decide) (br_f (by decide) (br_f (by decide) (br_f (by decide) (br_t rfl ⟨hin, td_Xcn hb hm hy h⟩)))))))
  · rw [td_w6] at h
    exact br_f (by decide) (br_t (by decide) h)
  · rw [td_w7] at h
    exact br_f (by decide) (br_t (by decide) h)
  · rw [td_w8] at h
    exact br_f (by decide) (br_t (by decide) h)
theorem td_Xvw {post : Int32 → Prop} (hi : i < 20) (hok : td_ok (op i) (xo i) (yo i) (zo i)) (hb : b + 14 ≤ 2814) (hm : ∀ p, p < 14 → va (b + p) = m p)
    (hw : td_w (op i) (xo i) (yo i) m ≠ -1) (h : post (td_v (op i) (xo i) (yo i) (zo i) m)) : wpX_valueWritten post (ic, sc, nw, op, xo, yo, zo, va, na, wb) (nI i) (nI b) := by
  have hin : vp_in (nI i) 20 := vp_in_nI hi (by decide)
  unfold wpX_valueWritten
  dsimp only
  rw [nI_clamp (show i < 2 ^ 31 by omega)]
  refine ⟨hin, nm_e ⟨hin, nm_e ⟨hin, nm_e ⟨hin, nm_e ?_⟩⟩⟩⟩
  rcases hok with ⟨e, hx⟩ | ⟨e, hx, hy, hz⟩ | ⟨e, hx, hy, hz⟩ | ⟨e, hx, hy, hz⟩ | ⟨e, hx, hy⟩ | ⟨e, hx, hy⟩ | ⟨e, hx⟩ | ⟨e, hx⟩ | e <;> rw [e] at h hw ⊢
  · rw [td_v0] at h
    exact br_f (by decide) (br_f (by decide) (br_t rfl h))
  · rw [td_v1] at h
    obtain ⟨j, hj, ey⟩ := hy
    obtain ⟨k, hk, ez⟩ := hz
    rw [ey, ez, nI_clamp (by omega), nI_clamp (by omega)] at h
    rw [ey, ez, (td_rd hb hm (p := j) (by omega)).2, (td_rd hb hm (p := k) (by omega)).2]
    exact br_f (by decide) (br_f (by decide) (br_f (by decide) (br_t rfl ⟨(td_rd hb hm (p := j) (by omega)).1, (td_rd hb hm (p := k) (by omega)).1, h⟩)))
  · rw [td_v2] at h
    obtain ⟨j, hj, ey⟩ := hy
    obtain ⟨k, hk, ez⟩ := hz
    rw [ey, ez, nI_clamp (by omega), nI_clamp (by omega)] at h
    rw [ey, ez, (td_rd hb hm (p := j) (by omega)).2, (td_rd hb hm (p := k) (by omega)).2]
    exact br_f (by decide) (br_f (by decide) (br_f (by decide) (br_f (by decide) (br_t rfl ⟨(td_rd hb hm (p := j) (by omega)).1, (td_rd hb hm (p := k) (by omega)).1, h⟩))))
  · rw [td_v3] at h
    obtain ⟨j, hj, ey⟩ := hy
    obtain ⟨k, hk, ez⟩ := hz
    rw [ey, ez, nI_clamp (by omega), nI_clamp (by omega)] at h
    rw [ey, ez, (td_rd hb hm (p := j) (by omega)).2, (td_rd hb hm (p := k) (by omega)).2]
    exact br_f (by decide) (br_f (by decide) (br_f (by decide) (br_f (by decide) (br_f (by decide) (br_t rfl ⟨(td_rd hb hm (p := j) (by omega)).1, (td_rd hb hm (p := k) (by omega)).1, h⟩)))))
  · rw [td_v4] at h
    obtain ⟨c, hc, ec⟩ := td_and7 (m (yo i).toNatClampNeg)
    rw [ec, td_6, nI_clamp (by omega)] at h
    refine br_f (by decide) (br_f (by decide) (br_f (by decide) (br_f (by decide) (br_f (by decide) (br_f (by decide) (br_t rfl (td_Xcn hb hm hy ?_)))))))
    rw [ec, td_6, (td_rd hb hm (p := 6 + c) (by omega)).2]
    exact ⟨(td_rd hb hm (p := 6 + c) (by omega)).1, h⟩
  · rw [td_v5] at h
    obtain ⟨j, hj, ex⟩ := hx
    rw [ex, nI_clamp (by omega)] at h
    rw [ex, (td_rd hb hm (p := j) (by omega)).2]
    exact br_f (by decide) (br_t (by decide) ⟨(td_rd hb hm (p := j) (by omega)).1, h⟩)
  · exact absurd (td_w6 _ _ _) hw
  · exact absurd (td_w7 _ _ _) hw
  · exact absurd (td_w8 _ _ _) hw
theorem td_Xia {post : Int32 → Prop} (hi : i < 20) (hok : td_ok (op i) (xo i) (yo i) (zo i)) (hb : b + 14 ≤ 2814) (hm : ∀ p, p < 14 → va (b + p) = m p)
    (h : post (nI (td_n (op i) (xo i) (yo i) i m))) : wpX_instructionAfter post (ic, sc, nw, op, xo, yo, zo, va, na, wb) (nI i) (nI b) := by
  have hin : vp_in (nI i) 20 := vp_in_nI hi (by decide)
  unfold wpX_instructionAfter
  dsimp only
  rw [nI_clamp (show i < 2 ^ 31 by omega), nI_1 i]
  refine ⟨hin, nm_e ?_⟩
  rcases hok with ⟨e, hx⟩ | ⟨e, hx⟩ | ⟨e, hx⟩ | ⟨e, hx⟩ | ⟨e, hx⟩ | ⟨e, hx⟩ | ⟨e, hx, hy⟩ | ⟨e, hx⟩ | e <;> rw [e] at h ⊢
  · rw [td_n0] at h
    exact br_t (by decide) h
  · rw [td_n1] at h
    exact br_t (by decide) h
  · rw [td_n2] at h
    exact br_t (by decide) h
  · rw [td_n3] at h
    exact br_t (by decide) h
  · rw [td_n4] at h
    exact br_t (by decide) h
  · rw [td_n5] at h
    exact br_t (by decide) h
  · rw [td_n6] at h
    obtain ⟨j, hj, ex⟩ := hx
    rw [ex, nI_clamp (by omega)] at h
    rw [ex, (td_rd hb hm (p := j) (by omega)).2]
    refine br_f (by decide) (br_f (by decide) (br_t rfl ⟨hin, (td_rd hb hm (p := j) (by omega)).1, br_c (fun g => ?_) fun g => ⟨hin, ?_⟩⟩))
    · rw [if_neg (Int32.not_lt.mpr g)] at h
      exact h
    · rw [if_pos (Int32.not_le.mp g), (td_Lpc hy).2] at h
      exact h
  · rw [td_n7, (td_Lpc hx).2] at h
    exact br_f (by decide) (br_f (by decide) (br_f (by decide) (br_t rfl ⟨hin, h⟩)))
  · rw [td_n8] at h
    exact br_f (by decide) (br_f (by decide) (br_f (by decide) (br_f (by decide) (br_t rfl h))))
end
end
section
theorem td_m1 {j : Nat} (hj : j < 2 ^ 31) : ¬ nI j = -1 := fun h => nI_pos hj (by rw [h]; decide)
theorem td_wj {o x y z : Int32} (m : Nat → Int32) (hok : td_ok o x y z) : td_w o x y m = -1 ∨ ∃ j : Nat, j < 14 ∧ td_w o x y m = nI j := by
  rcases hok with ⟨e, hx⟩ | ⟨e, hx, _⟩ | ⟨e, hx, _⟩ | ⟨e, hx, _⟩ | ⟨e, hx, _⟩ | ⟨e, hx, hy⟩ | ⟨e, hx⟩ | ⟨e, hx⟩ | e <;> rw [e]
  · rw [td_w0]
    obtain ⟨j, hj, ex⟩ := hx
    exact Or.inr ⟨j, by omega, ex⟩
  · rw [td_w1]
    obtain ⟨j, hj, ex⟩ := hx
    exact Or.inr ⟨j, by omega, ex⟩
  · rw [td_w2]
    obtain ⟨j, hj, ex⟩ := hx
    exact Or.inr ⟨j, by omega, ex⟩
  · rw [td_w3]
    obtain ⟨j, hj, ex⟩ := hx
    exact Or.inr ⟨j, by omega, ex⟩
  · rw [td_w4]
    obtain ⟨j, hj, ex⟩ := hx
    exact Or.inr ⟨j, by omega, ex⟩
  · rw [td_w5]
    obtain ⟨c, hc, ec⟩ := td_and7 (m y.toNatClampNeg)
    rw [ec, td_6]
    exact Or.inr ⟨6 + c, by omega, rfl⟩
  · exact Or.inl (td_w6 _ _ _)
  · exact Or.inl (td_w7 _ _ _)
  · exact Or.inl (td_w8 _ _ _)
theorem td_TabS {pc : Nat → Nat} {me : Nat → Nat → Int32} {wr : Nat → Int32} {s : Nat} {va na wb a : Nat → Int32} (hB : td_Tab pc me wr s va na wb)
    (h1 : ∀ q, q < (s + 1) * 14 → a q = va q) (h2 : ∀ p, p < 14 → a ((s + 1) * 14 + p) = me (s + 1) p) :
    td_Tab pc me wr (s + 1) a (upd na (s + 1) (nI (pc (s + 1)))) (upd wb (s + 1) (wr (s + 1))) := by
  refine ⟨fun t ht => ?_, fun t ht p hp => ?_, fun t h0 ht => ?_⟩
  · by_cases e : t = s + 1
    · rw [e, pk_us]
    · rw [pk_un e]
      exact hB.1 t (by omega)
  · by_cases e : t = s + 1
    · rw [e]
      exact h2 p hp
    · rw [h1 _ (by omega)]
      exact hB.2.1 t (by omega) p hp
  · by_cases e : t = s + 1
    · rw [e, pk_us]
    · rw [pk_un e]
      exact hB.2.2 t h0 (by omega)
section
variable {ic sc nw : Int32} {op xo yo zo va na wb : Nat → Int32} {m : Nat → Int32} {i b : Nat} {inp : Int32} {pc : Nat → Nat} {me : Nat → Nat → Int32} {wr : Nat → Int32} {n : Nat}
theorem td_X86 {post : SX → Prop} (hi : i < 20) (hok : td_ok (op i) (xo i) (yo i) (zo i)) (hb : b + 14 ≤ 2814) (hm : ∀ p, p < 14 → va (b + p) = m p) (s : Nat) (hs : s < 200)
    (h : post (ic, sc, nw, op, xo, yo, zo, va, upd na (s + 1) (nI (td_n (op i) (xo i) (yo i) i m)), wb)) : wX_executeStep_86 post (nI (s + 1)) (nI i) (nI b) ic sc nw op xo yo zo va na wb := by
  unfold wX_executeStep_86
  refine td_Xia hi hok hb hm ⟨vp_in_nI (by omega) (by decide), nm_e ?_⟩
  rw [nI_clamp (by omega)]
  exact h
theorem td_Xes {post : SX → Prop} {s : Nat} (hP : td_Pg n op xo yo zo) (hT : td_Tr op xo yo zo inp pc me wr) (hB : td_Tab pc me wr s va na wb) (hs : s < 200) (hpc : pc s < n)
    (k : ∀ va' na' wb', td_Tab pc me wr (s + 1) va' na' wb' → post (ic, sc, nw, op, xo, yo, zo, va', na', wb')) :
    wpX_executeStep post (ic, sc, nw, op, xo, yo, zo, va, na, wb) (nI (s + 1)) (nI (pc s)) := by
  have hn := hP.1
  have hok := hP.2 _ hpc
  obtain ⟨tn, tm, tw⟩ := hT.2.2 s
  unfold wpX_executeStep
  dsimp only
  refine nm_r (e' := nI (s * 14)) (by rw [nI_pred]; exact pk_mul s 14) (nm_r (e' := nI ((s + 1) * 14)) (pk_mul (s + 1) 14) ?_)
  refine pk_loop (fun n j a => wX_executeStep_16 post (nI (s + 1)) (nI (pc s)) (nI (s * 14)) (nI ((s + 1) * 14)) ic sc nw n (nI j) op xo yo zo a na wb)
    (fun j a => (∀ q, q < (s + 1) * 14 → a q = va q) ∧ ∀ p, p < j → a ((s + 1) * 14 + p) = me s p) 14 0 va (by omega) ⟨fun _ _ => rfl, fun p hp => absurd hp (by omega)⟩ ?_ ?_
  · intro n' a ⟨h1, h2⟩
    have hm : ∀ p, p < 14 → a (s * 14 + p) = me s p := fun p hp => by
      rw [h1 _ (by omega)]
      exact hB.2.1 s (Nat.le_refl s) p hp
    rw [wX_executeStep_16]
    refine br_t (by decide) (td_Xpw (by omega) hok (by omega) hm ⟨vp_in_nI (by omega) (by decide), nm_e ?_⟩)
    rw [nI_clamp (show s + 1 < 2 ^ 31 by omega), ← tw]
    refine br_c (fun e => ?_) fun e => ?_
    · refine td_X86 (by omega) hok (by omega) hm s hs (k _ _ _ ?_)
      rw [← tn]
      refine td_TabS hB h1 fun p hp => ?_
      rw [h2 p hp, tm, td_m, ← tw, if_pos e]
    · refine td_Xvw (by omega) hok (by omega) hm (by rw [← tw]; exact e) ?_
      obtain ⟨j, hj, ej⟩ : ∃ j : Nat, j < 14 ∧ wr (s + 1) = nI j := by
        rcases td_wj (me s) hok with h | h
        · exact absurd (tw.trans h) e
        · rw [tw]
          exact h
      have e1 : nI ((s + 1) * 14) + wr (s + 1) = nI ((s + 1) * 14 + j) := by rw [ej, nI_add]
      have tm' : me (s + 1) = upd (me s) j (td_v (op (pc s)) (xo (pc s)) (yo (pc s)) (zo (pc s)) (me s)) := by
        rw [tm, td_m, ← tw, if_neg e, ej, nI_clamp (by omega)]
      rw [e1, nI_clamp (show (s + 1) * 14 + j < 2 ^ 31 by omega)]
      refine ⟨vp_in_nI (by omega) (by decide), nm_e ?_⟩
      refine td_X86 (by omega) hok (by omega) (m := me s) (fun p hp => ?_) s hs (k _ _ _ ?_)
      · rw [pk_un (by omega)]
        exact hm p hp
      · rw [← tn]
        refine td_TabS hB (fun q hq => ?_) fun p hp => ?_
        · rw [pk_un (by omega)]
          exact h1 q hq
        · rw [tm']
          by_cases hpj : p = j
          · rw [hpj, pk_us, pk_us]
          · rw [pk_un (by omega), pk_un hpj, h2 p hp]
  · intro n' j a hj ⟨h1, h2⟩ ih
    have e1 : nI (s * 14) + nI j = nI (s * 14 + j) := nI_add _ _
    have e2 : nI ((s + 1) * 14) + nI j = nI ((s + 1) * 14 + j) := nI_add _ _
    rw [wX_executeStep_16]
    dsimp only
    rw [e1, e2, nI_clamp (show s * 14 + j < 2 ^ 31 by omega), nI_clamp (show (s + 1) * 14 + j < 2 ^ 31 by omega)]
    refine br_f (nI_ge (b := 14) hj (by decide)) ⟨vp_in_nI (by omega) (by decide), vp_in_nI (by omega) (by decide), nm_e (nm_r (nI_1 j) (ih _ ⟨fun q hq => ?_, fun p hp => ?_⟩))⟩
    · rw [pk_un (by omega)]
      exact h1 q hq
    · by_cases hpj : p = j
      · rw [hpj, pk_us, h1 _ (by omega)]
        exact hB.2.1 s (Nat.le_refl s) j (by omega)
      · rw [pk_un (by omega)]
        exact h2 p (by omega)
theorem td_Xlp {post : SX → Prop} (hP : td_Pg n op xo yo zo) (hT : td_Tr op xo yo zo inp pc me wr)
    (K : ∀ T va' na' wb', td_Run n op pc T → td_Tab pc me wr T va' na' wb' → post (nI n, nI T, 0, op, xo, yo, zo, va', na', wb')) :
    ∀ (d s : Nat) (va na wb : Nat → Int32), s + d = 200 → pc s ≤ 20 → td_Tab pc me wr s va na wb → (∀ t, t ≤ s → ¬ td_ha op pc t) → (∀ t, t < s → pc t < n) →
      wX_execute_12 post (d + 1) (nI (s + 1)) (nI n) (nI s) 0 op xo yo zo va na wb := by
  have hn := hP.1
  intro d
  induction d with
  | zero =>
    intro s va na wb hs h20 hB hh hp
    have e : s = 200 := by omega
    subst e
    rw [wX_execute_12]
    exact br_t (nI_lt (a := 200) (b := 201) (by omega) (by decide)) (K 200 va na wb ⟨by omega, fun t ht => ⟨hh t (by omega), hp t ht⟩, Or.inl rfl⟩ hB)
  | succ d ih =>
    intro s va na wb hs h20 hB hh hp
    rw [wX_execute_12]
    dsimp only
    refine br_f (nI_nlt (a := 200) (b := s + 1) (by omega) (by decide)) ?_
    rw [nI_pred, nI_clamp (show s < 2 ^ 31 by omega)]
    refine ⟨vp_in_nI (by omega) (by decide), nm_r (hB.1 s (Nat.le_refl s)) ?_⟩
    refine pk_lt (pc s) n (fun hlt => ?_) (fun hge => K s va na wb ⟨by omega, fun t ht => ⟨hh t (by omega), hp t ht⟩, Or.inr (Or.inr hge)⟩ hB) rfl rfl (by omega) (by omega)
    have hp' : ∀ t, t < s + 1 → pc t < n := fun t ht => by
      by_cases e : t = s
      · rw [e]
        exact hlt
      · exact hp t (by omega)
    refine td_Xes hP hT hB (by omega) hlt fun va' na' wb' hB' => ?_
    dsimp only
    rw [nI_clamp (show pc s < 2 ^ 31 by omega)]
    refine ⟨vp_in_nI (by omega) (by decide), br_c (fun e => ?_) fun e => nm_r (nI_1 (s + 1)) ?_⟩
    · exact K (s + 1) va' na' wb' ⟨by omega, fun t ht => ⟨hh t (by omega), hp' t ht⟩, Or.inr (Or.inl e)⟩ hB'
    · refine ih (s + 1) va' na' wb' (by omega) (td_pcB hP hT hlt) hB' (fun t ht => ?_) hp'
      by_cases h : t = s + 1
      · rw [h]
        exact e
      · exact hh t (by omega)
theorem td_Xex {post : SX → Prop} (hP : td_Pg n op xo yo zo) (h0 : na 0 = 0) (hv : ∀ p, p < 14 → va p = if p = 5 then inp else 0)
    (k : ∀ T pc me wr va' na' wb', td_Tr op xo yo zo inp pc me wr → td_Run n op pc T → td_Tab pc me wr T va' na' wb' → post (nI n, nI T, 0, op, xo, yo, zo, va', na', wb')) :
    wpX_execute post (nI n, sc, nw, op, xo, yo, zo, va, na, wb) := by
  obtain ⟨pc, me, wr, hT⟩ := td_TrE op xo yo zo inp
  unfold wpX_execute
  dsimp only
  have hB : td_Tab pc me wr 0 va na wb := by
    refine ⟨fun t ht => ?_, fun t ht p hp => ?_, fun t h1 ht => absurd ht (by omega)⟩
    · have e : t = 0 := by omega
      rw [e, h0, hT.1, nI_0]
    · have e : t = 0 := by omega
      rw [e, hT.2.1 p, ← hv p hp, Nat.zero_mul, Nat.zero_add]
  exact ⟨201, td_Xlp hP hT (fun T va' na' wb' hR hB' => k T pc me wr va' na' wb' hT hR hB') 200 0 va na wb rfl (by rw [hT.1]; omega) hB
    (fun t ht h => by
      have e : t = 0 := by omega
      rw [e] at h
      exact h) (fun t ht => absurd ht (by omega))⟩
end
end
section
theorem td_Yvar {post : Int32 → Prop} {v : SY} {x : Int32} (h1 : td_V x → post 1) (h0 : ¬ td_V x → post 0) : wpY_isVariable post v x := by
  obtain ⟨a1, a2, a3, a4, a5, a6, a7, a8, a9, a10, a11, a12, a13⟩ := v
  unfold wpY_isVariable
  exact br_c (fun h => h0 fun z => (td_V_le.mp z).1 h) fun h => br_c (fun g => h0 fun z => absurd (td_V_le.mp z).2 (Int32.not_le.mpr g)) fun g => h1 (td_V_le.mpr ⟨h, Int32.not_lt.mp g⟩)
theorem td_Ypl {post : Int32 → Prop} {v : SY} {x : Int32} (h1 : td_L x → post 1) (h0 : ¬ td_L x → post 0) : wpY_isPlace post v x := by
  obtain ⟨a1, a2, a3, a4, a5, a6, a7, a8, a9, a10, a11, a12, a13⟩ := v
  unfold wpY_isPlace
  exact br_c (fun h => h0 fun z => (td_L_le.mp z).1 h) fun h => br_c (fun g => h0 fun z => absurd (td_L_le.mp z).2 (Int32.not_le.mpr g)) fun g => h1 (td_L_le.mpr ⟨h, Int32.not_lt.mp g⟩)
section
variable {cn inp tm nx hl wv wc : Int32} {op ax ay az vr ce : Nat → Int32}
theorem td_Y69z {post : Int32 → Prop} {o z : Int32} (ho : ¬ o < 1) (ho3 : ¬ 3 < o) (h1 : td_V z → post 1) (h0 : ¬ td_V z → post 0) : wY_fits_69 post o z cn inp tm nx hl wv wc op ax ay az vr ce := by
  unfold wY_fits_69
  exact br_f ho (br_f ho3 (td_Yvar (fun h => br_f (by decide) (h1 h)) (fun h => br_t rfl (h0 h))))
theorem td_Yfit {post : Int32 → Prop} {o x y z : Int32} (h1 : td_ok o x y z → post 1) (h0 : ¬ td_ok o x y z → post 0) :
    wpY_fits post (cn, inp, tm, nx, hl, wv, wc, op, ax, ay, az, vr, ce) o x y z := by
  unfold wpY_fits
  dsimp only
  refine br_c (fun h => h0 fun g => ?_) fun hn => br_c (fun h => ?_) fun h => h0 fun g => ?_
  · obtain ⟨j, hj, rfl⟩ := td_okR g
    exact absurd h (nI_pos (by omega))
  · obtain ⟨j, hj, rfl⟩ := nI_of hn
    have h8 : j ≤ 8 := (nI_leI hj (by decide)).mp h
    rcases (by omega : j = 0 ∨ j = 1 ∨ j = 2 ∨ j = 3 ∨ j = 4 ∨ j = 5 ∨ j = 6 ∨ j = 7 ∨ j = 8) with rfl | rfl | rfl | rfl | rfl | rfl | rfl | rfl | rfl
    · refine br_f (by decide) (br_f (by decide) (td_Yvar (fun hx => br_f (by decide) (br_f (by decide) (br_t (by decide) ?_))) (fun g => br_t rfl (h0 fun q => g (td_ok0.mp q)))))
      unfold wY_fits_69
      exact br_t (by decide) (h1 (td_ok0.mpr hx))
    · exact br_f (by decide) (br_f (by decide) (td_Yvar (fun hx => br_f (by decide) (br_f (by decide) (br_f (by decide)
        (td_Yvar (fun hy => br_f (by decide) (td_Y69z (by decide) (by decide) (fun hz => h1 (td_ok1.mpr ⟨hx, hy, hz⟩)) (fun g => h0 fun q => g (td_ok1.mp q).2.2)))
          (fun g => br_t rfl (h0 fun q => g (td_ok1.mp q).2.1)))))) (fun g => br_t rfl (h0 fun q => g (td_ok1.mp q).1))))
    · exact br_f (by decide) (br_f (by decide) (td_Yvar (fun hx => br_f (by decide) (br_f (by decide) (br_f (by decide)
        (td_Yvar (fun hy => br_f (by decide) (td_Y69z (by decide) (by decide) (fun hz => h1 (td_ok2.mpr ⟨hx, hy, hz⟩)) (fun g => h0 fun q => g (td_ok2.mp q).2.2)))
          (fun g => br_t rfl (h0 fun q => g (td_ok2.mp q).2.1)))))) (fun g => br_t rfl (h0 fun q => g (td_ok2.mp q).1))))
    · exact br_f (by decide) (br_f (by decide) (td_Yvar (fun hx => br_f (by decide) (br_f (by decide) (br_f (by decide)
        (td_Yvar (fun hy => br_f (by decide) (td_Y69z (by decide) (by decide) (fun hz => h1 (td_ok3.mpr ⟨hx, hy, hz⟩)) (fun g => h0 fun q => g (td_ok3.mp q).2.2)))
          (fun g => br_t rfl (h0 fun q => g (td_ok3.mp q).2.1)))))) (fun g => br_t rfl (h0 fun q => g (td_ok3.mp q).1))))
    · refine br_f (by decide) (br_f (by decide) (td_Yvar (fun hx => br_f (by decide) (br_f (by decide) (br_f (by decide)
        (td_Yvar (fun hy => br_f (by decide) ?_)
          (fun g => br_t rfl (h0 fun q => g (td_ok4.mp q).2)))))) (fun g => br_t rfl (h0 fun q => g (td_ok4.mp q).1))))
      unfold wY_fits_69
      exact br_f (by decide) (br_t (by decide) (h1 (td_ok4.mpr ⟨hx, hy⟩)))
    · refine br_f (by decide) (br_f (by decide) (td_Yvar (fun hx => br_f (by decide) (br_f (by decide) (br_f (by decide)
        (td_Yvar (fun hy => br_f (by decide) ?_)
          (fun g => br_t rfl (h0 fun q => g (td_ok5.mp q).2)))))) (fun g => br_t rfl (h0 fun q => g (td_ok5.mp q).1))))
      unfold wY_fits_69
      exact br_f (by decide) (br_t (by decide) (h1 (td_ok5.mpr ⟨hx, hy⟩)))
    · exact br_f (by decide) (br_f (by decide) (td_Yvar (fun hx => br_f (by decide) (br_t (by decide)
        (td_Ypl (fun hy => ⟨rfl, h1 (td_ok6.mpr ⟨hx, hy⟩)⟩) (fun g => ⟨rfl, h0 fun q => g (td_ok6.mp q).2⟩)))) (fun g => br_t rfl (h0 fun q => g (td_ok6.mp q).1))))
    · exact br_f (by decide) (br_t (by decide) (td_Ypl (fun hx => ⟨rfl, h1 (td_ok7.mpr hx)⟩) (fun g => ⟨rfl, h0 fun q => g (td_ok7.mp q)⟩)))
    · exact br_t (by decide) (h1 td_ok8)
  · obtain ⟨j, hj, rfl⟩ := td_okR g
    exact absurd (nI_le (b := 8) (by omega) (by decide)) h
end
/-- the reference stands at the time s -/
def td_Y (op : Nat → Int32) (pc : Nat → Nat) (me : Nat → Nat → Int32) (s : Nat) (nx hl : Int32) (vr ce : Nat → Int32) : Prop :=
  nx = nI (pc s) ∧ (∀ p, p < 6 → vr p = me s p) ∧ (∀ c, c < 8 → ce c = me s (6 + c)) ∧ (td_ha op pc s → hl = 1) ∧ (¬ td_ha op pc s → hl = 0)
/-- it remembers what the step s wrote -/
def td_W (wr : Nat → Int32) (s : Nat) (wv wc : Int32) : Prop :=
  (∀ j, j < 6 → (wv = nI j ↔ wr s = nI j)) ∧ (∀ j, j < 8 → (wc = nI j ↔ wr s = nI (6 + j)))
section
variable {op ax ay az vr ce : Nat → Int32} {inp : Int32} {pc : Nat → Nat} {me : Nat → Nat → Int32} {wr : Nat → Int32} {nx hl : Int32} {s : Nat}
theorem td_Yv {a : Nat} {val : Int32} (hT : td_Tr op ax ay az inp pc me wr) (hY : td_Y op pc me s nx hl vr ce) (hh : ¬ td_ha op pc s) (ha : a < 6)
    (h8 : ¬ op (pc s) = 8) (hw : td_w (op (pc s)) (ax (pc s)) (ay (pc s)) (me s) = nI a) (hv : td_v (op (pc s)) (ax (pc s)) (ay (pc s)) (az (pc s)) (me s) = val)
    (hn : td_n (op (pc s)) (ax (pc s)) (ay (pc s)) (pc s) (me s) = pc s + 1) :
    td_Y op pc me (s + 1) (nx + 1) hl (upd vr a val) ce ∧ td_W wr (s + 1) (nI a) (-1) := by
  obtain ⟨tn, tm, tw⟩ := hT.2.2 s
  rw [hw] at tw
  rw [td_m, hw, hv, if_neg (td_m1 (by omega)), nI_clamp (by omega)] at tm
  obtain ⟨y1, y2, y3, y4, y5⟩ := hY
  refine ⟨⟨?_, fun p hp => ?_, fun c hc => ?_, fun h => absurd h h8, fun _ => y5 hh⟩, fun j hj => ?_, fun j hj => ?_⟩
  · rw [y1, nI_1, tn, hn]
  · rw [tm]
    by_cases e : p = a
    · rw [e, pk_us, pk_us]
    · rw [pk_un e, pk_un e, y2 p hp]
  · rw [tm, pk_un (by omega), y3 c hc]
  · rw [tw]
  · rw [tw, nI_eq (by omega) (by omega)]
    exact ⟨fun h => absurd h.symm (td_m1 (by omega)), fun h => absurd h (by omega)⟩
theorem td_Yc {c : Nat} {val : Int32} (hT : td_Tr op ax ay az inp pc me wr) (hY : td_Y op pc me s nx hl vr ce) (hh : ¬ td_ha op pc s) (hc : c < 8)
    (h8 : ¬ op (pc s) = 8) (hw : td_w (op (pc s)) (ax (pc s)) (ay (pc s)) (me s) = nI (6 + c)) (hv : td_v (op (pc s)) (ax (pc s)) (ay (pc s)) (az (pc s)) (me s) = val)
    (hn : td_n (op (pc s)) (ax (pc s)) (ay (pc s)) (pc s) (me s) = pc s + 1) :
    td_Y op pc me (s + 1) (nx + 1) hl vr (upd ce c val) ∧ td_W wr (s + 1) (-1) (nI c) := by
  obtain ⟨tn, tm, tw⟩ := hT.2.2 s
  rw [hw] at tw
  rw [td_m, hw, hv, if_neg (td_m1 (by omega)), nI_clamp (by omega)] at tm
  obtain ⟨y1, y2, y3, y4, y5⟩ := hY
  refine ⟨⟨?_, fun p hp => ?_, fun d hd => ?_, fun h => absurd h h8, fun _ => y5 hh⟩, fun j hj => ?_, fun j hj => ?_⟩
  · rw [y1, nI_1, tn, hn]
  · rw [tm, pk_un (by omega), y2 p hp]
  · rw [tm]
    by_cases e : d = c
    · rw [e, pk_us, pk_us]
    · rw [pk_un e, pk_un (by omega), y3 d hd]
  · rw [tw, nI_eq (by omega) (by omega)]
    exact ⟨fun h => absurd h.symm (td_m1 (by omega)), fun h => absurd h (by omega)⟩
  · rw [tw, nI_eq (by omega) (by omega), nI_eq (by omega) (by omega)]
    omega
theorem td_Yn {nx' hl' : Int32} (hT : td_Tr op ax ay az inp pc me wr) (hY : td_Y op pc me s nx hl vr ce)
    (h8 : op (pc s) = 8 → hl' = 1) (h8' : ¬ op (pc s) = 8 → hl' = 0) (hw : td_w (op (pc s)) (ax (pc s)) (ay (pc s)) (me s) = -1)
    (hn : nx' = nI (td_n (op (pc s)) (ax (pc s)) (ay (pc s)) (pc s) (me s))) :
    td_Y op pc me (s + 1) nx' hl' vr ce ∧ td_W wr (s + 1) (-1) (-1) := by
  obtain ⟨tn, tm, tw⟩ := hT.2.2 s
  rw [hw] at tw
  rw [td_m, hw, if_pos rfl] at tm
  obtain ⟨y1, y2, y3, y4, y5⟩ := hY
  refine ⟨⟨?_, fun p hp => ?_, fun d hd => ?_, h8, h8'⟩, fun j hj => ?_, fun j hj => ?_⟩
  · rw [hn, tn]
  · rw [tm, y2 p hp]
  · rw [tm, y3 d hd]
  · rw [tw]
  · rw [tw]
    exact ⟨fun h => absurd h.symm (td_m1 (by omega)), fun h => absurd h.symm (td_m1 (by omega))⟩
end
end
section
section
variable {cn inp' tm nx hl wv wc : Int32} {op ax ay az vr ce : Nat → Int32} {inp : Int32} {pc : Nat → Nat} {me : Nat → Nat → Int32} {wr : Nat → Int32} {n s T : Nat}
theorem td_Yset {post : SY → Prop} {a : Nat} {val : Int32} (ha : a < 6) (h : post (cn, inp', tm, nx, hl, nI a, wc, op, ax, ay, az, upd vr a val, ce)) :
    wpY_setVariable post (cn, inp', tm, nx, hl, wv, wc, op, ax, ay, az, vr, ce) (nI a) val := by
  unfold wpY_setVariable
  dsimp only
  rw [nI_clamp (by omega)]
  exact ⟨vp_in_nI ha (by decide), nm_e h⟩
theorem td_Yst {post : SY → Prop} (hP : td_Pg n op ax ay az) (hT : td_Tr op ax ay az inp pc me wr) (hY : td_Y op pc me s nx hl vr ce) (hh : ¬ td_ha op pc s) (hpc : pc s < n)
    (k : ∀ nx' hl' wv' wc' vr' ce', td_Y op pc me (s + 1) nx' hl' vr' ce' → td_W wr (s + 1) wv' wc' → post (cn, inp', tm, nx', hl', wv', wc', op, ax, ay, az, vr', ce')) :
    wpY_step post (cn, inp', tm, nx, hl, wv, wc, op, ax, ay, az, vr, ce) := by
  have hn := hP.1
  have hok := hP.2 _ hpc
  have y2 := hY.2.1
  have y3 := hY.2.2.1
  have h0 := hY.2.2.2.2 hh
  have hin : vp_in (nI (pc s)) 20 := vp_in_nI (by omega) (by decide)
  obtain rfl := hY.1
  unfold wpY_step
  dsimp only
  rw [nI_clamp (show pc s < 2 ^ 31 by omega)]
  refine ⟨hin, nm_e ⟨hin, nm_e (nm_e ⟨hin, ?_⟩)⟩⟩
  rcases hok with ⟨e, hx⟩ | ⟨e, hx, hy, hz⟩ | ⟨e, hx, hy, hz⟩ | ⟨e, hx, hy, hz⟩ | ⟨e, hx, hy⟩ | ⟨e, hx, hy⟩ | ⟨e, hx, hy⟩ | ⟨e, hx⟩ | e <;> rw [e]
  · obtain ⟨a, ha, ex⟩ := hx
    rw [ex]
    obtain ⟨g1, g2⟩ := td_Yv (val := ay (pc s)) hT hY hh ha (by rw [e]; decide) (by rw [e, td_w0]; exact ex) (by rw [e, td_v0]) (by rw [e, td_n0])
    refine br_t rfl (td_Yset ha ?_)
    dsimp only
    exact k _ _ _ _ _ _ g1 g2
  · obtain ⟨a, ha, ex⟩ := hx
    obtain ⟨j, hj, ey⟩ := hy
    obtain ⟨l, hl', ez⟩ := hz
    rw [ex, ey, ez, nI_clamp (show j < 2 ^ 31 by omega), nI_clamp (show l < 2 ^ 31 by omega)]
    obtain ⟨g1, g2⟩ := td_Yv (val := vr j + vr l) hT hY hh ha (by rw [e]; decide) (by rw [e, td_w1]; exact ex)
      (by rw [e, td_v1, ey, ez, nI_clamp (show j < 2 ^ 31 by omega), nI_clamp (show l < 2 ^ 31 by omega), y2 j hj, y2 l hl']) (by rw [e, td_n1])
    refine br_f (by decide) ⟨hin, br_t rfl ⟨vp_in_nI hj (by decide), hin, vp_in_nI hl' (by decide), td_Yset ha ?_⟩⟩
    dsimp only
    exact k _ _ _ _ _ _ g1 g2
  · obtain ⟨a, ha, ex⟩ := hx
    obtain ⟨j, hj, ey⟩ := hy
    obtain ⟨l, hl', ez⟩ := hz
    rw [ex, ey, ez, nI_clamp (show j < 2 ^ 31 by omega), nI_clamp (show l < 2 ^ 31 by omega)]
    obtain ⟨g1, g2⟩ := td_Yv (val := vr j - vr l) hT hY hh ha (by rw [e]; decide) (by rw [e, td_w2]; exact ex)
      (by rw [e, td_v2, ey, ez, nI_clamp (show j < 2 ^ 31 by omega), nI_clamp (show l < 2 ^ 31 by omega), y2 j hj, y2 l hl']) (by rw [e, td_n2])
    refine br_f (by decide) ⟨hin, br_f (by decide) ⟨hin, br_t rfl ⟨vp_in_nI hj (by decide), hin, vp_in_nI hl' (by decide), td_Yset ha ?_⟩⟩⟩
    dsimp only
    exact k _ _ _ _ _ _ g1 g2
  · obtain ⟨a, ha, ex⟩ := hx
    obtain ⟨j, hj, ey⟩ := hy
    obtain ⟨l, hl', ez⟩ := hz
    rw [ex, ey, ez, nI_clamp (show j < 2 ^ 31 by omega), nI_clamp (show l < 2 ^ 31 by omega)]
    obtain ⟨g1, g2⟩ := td_Yv (val := vr j * vr l) hT hY hh ha (by rw [e]; decide) (by rw [e, td_w3]; exact ex)
      (by rw [e, td_v3, ey, ez, nI_clamp (show j < 2 ^ 31 by omega), nI_clamp (show l < 2 ^ 31 by omega), y2 j hj, y2 l hl']) (by rw [e, td_n3])
    refine br_f (by decide) ⟨hin, br_f (by decide) ⟨hin, br_f (by decide) ⟨hin, br_t rfl ⟨vp_in_nI hj (by decide), hin, vp_in_nI hl' (by decide), td_Yset ha ?_⟩⟩⟩⟩
    dsimp only
    exact k _ _ _ _ _ _ g1 g2
  · obtain ⟨a, ha, ex⟩ := hx
    obtain ⟨j, hj, ey⟩ := hy
    obtain ⟨c, hc, ec⟩ := td_and7 (me s j)
    rw [ex, ey, nI_clamp (show j < 2 ^ 31 by omega), y2 j hj, ec, nI_clamp (show c < 2 ^ 31 by omega)]
    obtain ⟨g1, g2⟩ := td_Yv (val := ce c) hT hY hh ha (by rw [e]; decide) (by rw [e, td_w4]; exact ex)
      (by rw [e, td_v4, ey, nI_clamp (show j < 2 ^ 31 by omega), ec, td_6, nI_clamp (show 6 + c < 2 ^ 31 by omega), y3 c hc]) (by rw [e, td_n4])
    refine br_f (by decide) ⟨hin, br_f (by decide) ⟨hin, br_f (by decide) ⟨hin, br_f (by decide) ⟨hin, br_t rfl ⟨vp_in_nI hj (by decide), vp_in_nI hc (by decide), td_Yset ha ?_⟩⟩⟩⟩⟩
    dsimp only
    exact k _ _ _ _ _ _ g1 g2
  · obtain ⟨a, ha, ex⟩ := hx
    obtain ⟨j, hj, ey⟩ := hy
    obtain ⟨c, hc, ec⟩ := td_and7 (me s j)
    rw [ex, ey, nI_clamp (show j < 2 ^ 31 by omega), nI_clamp (show a < 2 ^ 31 by omega), y2 j hj, ec]
    obtain ⟨g1, g2⟩ := td_Yc (val := vr a) hT hY hh hc (by rw [e]; decide) (by rw [e, td_w5, ey, nI_clamp (show j < 2 ^ 31 by omega), ec, td_6])
      (by rw [e, td_v5, ex, nI_clamp (show a < 2 ^ 31 by omega), y2 a ha]) (by rw [e, td_n5])
    refine br_f (by decide) ⟨hin, br_f (by decide) ⟨hin, br_f (by decide) ⟨hin, br_f (by decide) ⟨hin, br_f (by decide) ⟨hin, br_t rfl ⟨vp_in_nI hj (by decide), nm_e ⟨vp_in_nI ha (by decide), vp_in_nI hc (by decide), nm_r (e' := upd ce c (vr a)) (by rw [nI_clamp (show c < 2 ^ 31 by omega)]) (k _ _ _ _ _ _ g1 g2)⟩⟩⟩⟩⟩⟩⟩
  · obtain ⟨a, ha, ex⟩ := hx
    rw [ex, nI_clamp (show a < 2 ^ 31 by omega)]
    refine br_f (by decide) ⟨hin, br_f (by decide) ⟨hin, br_f (by decide) ⟨hin, br_f (by decide) ⟨hin, br_f (by decide) ⟨hin, br_f (by decide) ⟨hin, br_t rfl ⟨vp_in_nI ha (by decide), br_c (fun g => ?_) fun g => ?_⟩⟩⟩⟩⟩⟩⟩
    · obtain ⟨g1, g2⟩ := td_Yn (nx' := nI (pc s) + 1) (hl' := hl) hT hY (fun z => absurd (e.symm.trans z) (by decide)) (fun _ => h0) (by rw [e, td_w6])
        (by rw [e, td_n6, ex, nI_clamp (show a < 2 ^ 31 by omega), ← y2 a ha, if_neg (Int32.not_lt.mpr g), nI_1])
      unfold wY_step_266
      rw [nI_clamp (show pc s < 2 ^ 31 by omega), e]
      exact ⟨hin, br_f (by decide) ⟨hin, br_f (by decide) (k _ _ _ _ _ _ g1 g2)⟩⟩
    · obtain ⟨g1, g2⟩ := td_Yn (nx' := ay (pc s)) (hl' := hl) hT hY (fun z => absurd (e.symm.trans z) (by decide)) (fun _ => h0) (by rw [e, td_w6])
        (by rw [e, td_n6, ex, nI_clamp (show a < 2 ^ 31 by omega), ← y2 a ha, if_pos (Int32.not_le.mp g), (td_Lpc hy).2])
      exact k _ _ _ _ _ _ g1 g2
  · obtain ⟨g1, g2⟩ := td_Yn (nx' := ax (pc s)) (hl' := hl) hT hY (fun z => absurd (e.symm.trans z) (by decide)) (fun _ => h0) (by rw [e, td_w7]) (by rw [e, td_n7, (td_Lpc hx).2])
    refine br_f (by decide) ⟨hin, br_f (by decide) ⟨hin, br_f (by decide) ⟨hin, br_f (by decide) ⟨hin, br_f (by decide) ⟨hin, br_f (by decide) ⟨hin, br_f (by decide) ?_⟩⟩⟩⟩⟩⟩
    unfold wY_step_266
    rw [nI_clamp (show pc s < 2 ^ 31 by omega), e]
    exact ⟨hin, br_t rfl (k _ _ _ _ _ _ g1 g2)⟩
  · obtain ⟨g1, g2⟩ := td_Yn (nx' := nI (pc s)) (hl' := 1) hT hY (fun _ => rfl) (fun z => absurd e z) (by rw [e, td_w8]) (by rw [e, td_n8])
    refine br_f (by decide) ⟨hin, br_f (by decide) ⟨hin, br_f (by decide) ⟨hin, br_f (by decide) ⟨hin, br_f (by decide) ⟨hin, br_f (by decide) ⟨hin, br_f (by decide) ?_⟩⟩⟩⟩⟩⟩
    unfold wY_step_266
    rw [nI_clamp (show pc s < 2 ^ 31 by omega), e]
    exact ⟨hin, br_f (by decide) ⟨hin, br_t rfl (k _ _ _ _ _ _ g1 g2)⟩⟩
theorem td_Ybg {post : SY → Prop} (k : ∀ vr' ce', (∀ p, p < 6 → vr' p = if p = 5 then inp else 0) → (∀ c, c < 8 → ce' c = 0) → post (cn, inp, tm, 0, 0, wv, wc, op, ax, ay, az, vr', ce')) :
    wpY_begin post (cn, inp, tm, nx, hl, wv, wc, op, ax, ay, az, vr, ce) := by
  unfold wpY_begin
  dsimp only
  refine pk_loop (fun n j a => wY_begin_2 post cn inp tm nx hl wv wc n (nI j) op ax ay az a ce) (fun j a => ∀ p, p < j → a p = 0) 5 0 vr (by omega) (fun p hp => absurd hp (by omega)) ?_ ?_
  · intro n' a h
    rw [wY_begin_2]
    refine br_t (by decide) (nm_e ?_)
    refine pk_loop (fun n j c => wY_begin_32 post cn inp tm nx hl wv wc n (nI j) op ax ay az (upd a 5 inp) c) (fun j c => ∀ p, p < j → c p = 0) 8 0 ce (by omega) (fun p hp => absurd hp (by omega)) ?_ ?_
    · intro n' c hc
      rw [wY_begin_32]
      refine br_t (by decide) (k _ _ (fun p hp => ?_) hc)
      by_cases e : p = 5
      · rw [e, pk_us, if_pos rfl]
      · rw [pk_un e, if_neg e]
        exact h p (by omega)
    · intro n' j c hj hc ih
      rw [wY_begin_32]
      dsimp only
      rw [nI_clamp (show j < 2 ^ 31 by omega)]
      refine br_f (nI_ge (b := 8) hj (by decide)) ⟨vp_in_nI hj (by decide), nm_e (nm_r (nI_1 j) (ih _ fun p hp => ?_))⟩
      by_cases e : p = j
      · rw [e, pk_us]
      · rw [pk_un e]
        exact hc p (by omega)
  · intro n' j a hj h ih
    rw [wY_begin_2]
    dsimp only
    rw [nI_clamp (show j < 2 ^ 31 by omega)]
    refine br_f (nI_ge (b := 5) hj (by decide)) ⟨vp_in_nI (by omega) (by decide), nm_e (nm_r (nI_1 j) (ih _ fun p hp => ?_))⟩
    by_cases e : p = j
    · rw [e, pk_us]
    · rw [pk_un e]
      exact h p (by omega)
theorem td_Y0 (hT : td_Tr op ax ay az inp pc me wr) (hv : ∀ p, p < 6 → vr p = if p = 5 then inp else 0) (hc : ∀ c, c < 8 → ce c = 0) : td_Y op pc me 0 0 0 vr ce :=
  ⟨by rw [hT.1, nI_0], fun p hp => by rw [hv p hp, hT.2.1], fun c h => by rw [hc c h, hT.2.1, if_neg (by omega)], fun h => h.elim, fun _ => rfl⟩
theorem td_Ysta {post : SY → Prop} (hP : td_Pg n op ax ay az) (hT : td_Tr op ax ay az inp pc me wr) (hR : td_Run n op pc T) {t : Nat} (ht : t ≤ T)
    (k : ∀ nx' hl' wv' wc' vr' ce', td_Y op pc me t nx' hl' vr' ce' → post (cn, inp, tm, nx', hl', wv', wc', op, ax, ay, az, vr', ce')) :
    wpY_state post (cn, inp, tm, nx, hl, wv, wc, op, ax, ay, az, vr, ce) (nI t) := by
  have hT2 := hR.1
  have L : ∀ (d s : Nat) (nx hl wv wc : Int32) (vr ce : Nat → Int32), s + d = t → td_Y op pc me s nx hl vr ce → wY_state_6 post (nI t) (d + 1) (nI s) cn inp tm nx hl wv wc op ax ay az vr ce := by
    intro d
    induction d with
    | zero =>
      intro s nx hl wv wc vr ce hs hY
      have e : s = t := by omega
      rw [e] at hY ⊢
      rw [wY_state_6]
      exact br_t (Int32.le_refl _) (k _ _ _ _ _ _ hY)
    | succ d ih =>
      intro s nx hl wv wc vr ce hs hY
      rw [wY_state_6]
      refine br_f (nI_ge (by omega) (by omega)) (td_Yst hP hT hY (hR.2.1 s (by omega)).1 (hR.2.1 s (by omega)).2 fun nx' hl' wv' wc' vr' ce' hY' _ => ?_)
      exact nm_r (nI_1 s) (ih (s + 1) _ _ _ _ _ _ (by omega) hY')
  unfold wpY_state
  dsimp only
  refine td_Ybg fun vr' ce' hv hc => ?_
  exact ⟨t + 1, L t 0 0 0 wv wc vr' ce' (by omega) (td_Y0 hT hv hc)⟩
theorem td_Yen {post : Int32 → Prop} (hn : n ≤ 20) (h20 : pc s ≤ 20) (hY : td_Y op pc me s nx hl vr ce) (h1 : td_ha op pc s ∨ n ≤ pc s → post 1) (h0 : ¬ td_ha op pc s → pc s < n → post 0) :
    wpY_ended post (nI n, inp', tm, nx, hl, wv, wc, op, ax, ay, az, vr, ce) := by
  unfold wpY_ended
  dsimp only
  by_cases h : td_ha op pc s
  · rw [hY.2.2.2.1 h]
    exact br_f (by decide) (h1 (Or.inl h))
  · rw [hY.2.2.2.2 h]
    exact br_t rfl (pk_lt (pc s) n (fun g => h0 h g) (fun g => h1 (Or.inr g)) hY.1 rfl (by omega) (by omega))
theorem td_Ysts {post : Int32 → SY → Prop} (hP : td_Pg n op ax ay az) (hT : td_Tr op ax ay az inp pc me wr) (hR : td_Run n op pc T)
    (k : ∀ nx' hl' wv' wc' vr' ce', post (nI T) (nI n, inp, tm, nx', hl', wv', wc', op, ax, ay, az, vr', ce')) :
    wpY_steps post (nI n, inp, tm, nx, hl, wv, wc, op, ax, ay, az, vr, ce) := by
  have hT2 := hR.1
  have hn := hP.1
  have L : ∀ (d s : Nat) (nx hl wv wc : Int32) (vr ce : Nat → Int32), s + d = T → td_Y op pc me s nx hl vr ce → wY_steps_8 post (d + 1) (nI s) (nI s) (nI n) inp tm nx hl wv wc op ax ay az vr ce := by
    intro d
    induction d with
    | zero =>
      intro s nx hl wv wc vr ce hs hY
      have e : s = T := by omega
      rw [e] at hY ⊢
      rw [wY_steps_8]
      refine pk_le 200 T (fun h => k _ _ _ _ _ _) (fun h => td_Yen hn (td_pc20 hP hT hR T (Nat.le_refl T)) hY (fun _ => br_f (by decide) (k _ _ _ _ _ _)) (fun g1 g2 => ?_)) rfl rfl (by omega) (by omega)
      rcases hR.2.2 with g | g | g
      · omega
      · exact absurd g g1
      · omega
    | succ d ih =>
      intro s nx hl wv wc vr ce hs hY
      obtain ⟨r1, r2⟩ := hR.2.1 s (by omega)
      rw [wY_steps_8]
      refine br_f (nI_ge (b := 200) (by omega) (by decide)) (td_Yen hn (by omega) hY (fun g => ?_) (fun _ _ => br_t rfl (td_Yst hP hT hY r1 r2 fun nx' hl' wv' wc' vr' ce' hY' _ => ?_)))
      · rcases g with g | g
        · exact absurd g r1
        · omega
      · exact nm_r (nI_1 s) (nm_r (nI_1 s) (ih (s + 1) _ _ _ _ _ _ (by omega) hY'))
  unfold wpY_steps
  dsimp only
  refine td_Ybg fun vr' ce' hv hc => ?_
  exact ⟨T + 1, L T 0 0 0 wv wc vr' ce' (by omega) (td_Y0 hT hv hc)⟩
end
end
section
section
variable {ic sc nw : Int32} {va na wb : Nat → Int32} {cn tm nx hl wv wc : Int32} {op ax ay az vr ce : Nat → Int32} {inp : Int32} {pc : Nat → Nat} {me : Nat → Nat → Int32} {wr : Nat → Int32} {n s T w : Nat}
theorem td_Xls {post : Int32 → Prop} (hB : td_Tab pc me wr T va na wb) (hT2 : T ≤ 200) (q : Int32) (hw : w ≤ T) (h : post (nI (td_last wr q w))) :
    wpX_latestStepThatWrote post (ic, sc, nI w, op, ax, ay, az, va, na, wb) q := by
  have L : ∀ s, s ≤ T → post (nI (td_last wr q s)) → wX_latestStepThatWrote_5 post q ic sc (nI w) op ax ay az va na wb (s + 1) (nI s) := by
    intro s
    induction s with
    | zero =>
      intro _ h
      rw [wX_latestStepThatWrote_5]
      exact br_t (by decide) h
    | succ s ih =>
      intro hs h
      rw [wX_latestStepThatWrote_5]
      dsimp only
      rw [nI_clamp (show s + 1 < 2 ^ 31 by omega), hB.2.2 (s + 1) (by omega) hs]
      rw [td_last] at h
      refine br_f (nI_nle (by omega) (by omega)) ⟨vp_in_nI (by omega) (by decide), br_c (fun e => ?_) fun e => nm_r (pk_m1 s) (ih (by omega) ?_)⟩
      · rw [if_pos e] at h
        exact h
      · rw [if_neg e] at h
        exact h
  unfold wpX_latestStepThatWrote
  exact ⟨w + 1, L w hw h⟩
theorem td_Ylw {post : Int32 → SY → Prop} {x1 x2 q : Int32} (hP : td_Pg n op ax ay az) (hT : td_Tr op ax ay az inp pc me wr) (hR : td_Run n op pc T) (hw : w ≤ T)
    (hv : x1 = 0 → ∀ s wv wc, td_W wr s wv wc → (wv = x2 ↔ wr s = q)) (hc : ¬ x1 = 0 → ∀ s wv wc, td_W wr s wv wc → (wc = x2 ↔ wr s = q))
    (k : ∀ nx' hl' wv' wc' vr' ce', post (nI (td_last wr q w)) (cn, inp, nI w, nx', hl', wv', wc', op, ax, ay, az, vr', ce')) :
    ∀ (d s : Nat) (nx hl wv wc : Int32) (vr ce : Nat → Int32), s + d = w → td_Y op pc me s nx hl vr ce →
      wY_lastWrite_38 post x1 x2 (d + 1) (nI (td_last wr q s)) (nI (s + 1)) cn inp (nI w) nx hl wv wc op ax ay az vr ce := by
  have hT2 := hR.1
  intro d
  induction d with
  | zero =>
    intro s nx hl wv wc vr ce hs hY
    have e : s = w := by omega
    rw [e, wY_lastWrite_38]
    exact br_t (nI_lt (by omega) (by omega)) (k _ _ _ _ _ _)
  | succ d ih =>
    intro s nx hl wv wc vr ce hs hY
    have J : ∀ (z nx' hl' wv' wc' : Int32) (vr' ce' : Nat → Int32), td_Y op pc me (s + 1) nx' hl' vr' ce' → (z = x2 ↔ wr (s + 1) = q) →
        wY_lastWrite_66 post (wY_lastWrite_38 post x1 x2 (d + 1)) x1 x2 (nI (td_last wr q s)) (nI (s + 1)) z cn inp (nI w) nx' hl' wv' wc' op ax ay az vr' ce' := by
      intro z nx' hl' wv' wc' vr' ce' hY' hz
      have h := ih (s + 1) nx' hl' wv' wc' vr' ce' (by omega) hY'
      rw [td_last] at h
      unfold wY_lastWrite_66
      refine br_c (fun e => nm_r (nI_1 (s + 1)) ?_) fun e => nm_r (nI_1 (s + 1)) ?_
      · rw [if_pos (hz.mp e)] at h
        exact h
      · rw [if_neg (fun g => e (hz.mpr g))] at h
        exact h
    rw [wY_lastWrite_38]
    refine br_f (nI_nlt (by omega) (by omega)) (td_Yst hP hT hY (hR.2.1 s (by omega)).1 (hR.2.1 s (by omega)).2 fun nx' hl' wv' wc' vr' ce' hY' hW => ?_)
    exact br_c (fun e => J _ _ _ _ _ _ _ hY' (hv e _ _ _ hW)) (fun e => J _ _ _ _ _ _ _ hY' (hc e _ _ _ hW))
theorem td_YlwV {post : Int32 → SY → Prop} (hP : td_Pg n op ax ay az) (hT : td_Tr op ax ay az inp pc me wr) (hR : td_Run n op pc T) (hw : w ≤ T) {j : Nat} (hj : j < 6)
    (k : ∀ nx' hl' wv' wc' vr' ce', post (nI (td_last wr (nI j) w)) (cn, inp, nI w, nx', hl', wv', wc', op, ax, ay, az, vr', ce')) :
    wpY_lastWrite post (cn, inp, nI w, nx, hl, wv, wc, op, ax, ay, az, vr, ce) 0 (nI j) := by
  unfold wpY_lastWrite
  dsimp only
  refine br_t rfl ?_
  unfold wY_lastWrite_9
  refine br_f (nI_pos (by omega)) (br_t rfl ?_)
  unfold wY_lastWrite_24
  refine br_t (nI_le (b := 5) (by omega) (by decide)) (td_Ybg fun vr' ce' h1 h2 => ⟨w + 1, ?_⟩)
  exact td_Ylw hP hT hR hw (fun _ s wv wc hW => hW.1 j hj) (fun h => absurd rfl h) k w 0 0 0 wv wc vr' ce' (by omega) (td_Y0 hT h1 h2)
theorem td_YlwC {post : Int32 → SY → Prop} (hP : td_Pg n op ax ay az) (hT : td_Tr op ax ay az inp pc me wr) (hR : td_Run n op pc T) (hw : w ≤ T) {j : Nat} (hj : j < 8)
    (k : ∀ nx' hl' wv' wc' vr' ce', post (nI (td_last wr (nI (6 + j)) w)) (cn, inp, nI w, nx', hl', wv', wc', op, ax, ay, az, vr', ce')) :
    wpY_lastWrite post (cn, inp, nI w, nx, hl, wv, wc, op, ax, ay, az, vr, ce) 1 (nI j) := by
  unfold wpY_lastWrite
  dsimp only
  refine br_f (by decide) (br_t rfl ?_)
  unfold wY_lastWrite_9
  refine br_f (nI_pos (by omega)) (br_f (by decide) ?_)
  unfold wY_lastWrite_24
  refine br_t (nI_le (b := 7) (by omega) (by decide)) (td_Ybg fun vr' ce' h1 h2 => ⟨w + 1, ?_⟩)
  exact td_Ylw hP hT hR hw (fun h => absurd h (by decide)) (fun _ s wv wc hW => hW.2 j hj) k w 0 0 0 wv wc vr' ce' (by omega) (td_Y0 hT h1 h2)
theorem td_YlwB {post : Int32 → SY → Prop} {x1 x2 : Int32} (h : ¬ (x1 = 0 ∧ td_V x2) ∧ ¬ (x1 = 1 ∧ td_C x2)) (k : post (-1) (cn, inp, tm, nx, hl, wv, wc, op, ax, ay, az, vr, ce)) :
    wpY_lastWrite post (cn, inp, tm, nx, hl, wv, wc, op, ax, ay, az, vr, ce) x1 x2 := by
  unfold wpY_lastWrite
  dsimp only
  refine br_c (fun h0 => ?_) fun h0 => br_c (fun h1 => ?_) fun _ => k
  · unfold wY_lastWrite_9
    refine br_c (fun _ => k) fun g => br_t h0 ?_
    unfold wY_lastWrite_24
    exact br_f (fun g5 => h.1 ⟨h0, td_V_le.mpr ⟨g, g5⟩⟩) k
  · unfold wY_lastWrite_9
    refine br_c (fun _ => k) fun g => br_f h0 ?_
    unfold wY_lastWrite_24
    exact br_f (fun g7 => h.2 ⟨h1, td_C_le.mpr ⟨g, g7⟩⟩) k
/-- both scan up from the time s -/
theorem td_up (hP : td_Pg n op ax ay az) (hT : td_Tr op ax ay az inp pc me wr) (hR : td_Run n op pc T) (hB : td_Tab pc me wr T va na wb) (hw : w ≤ T) {j : Nat} (hj : j < 20) :
    ∀ d s : Nat, s + d = T + 1 → ∃ (r : Int32) (w' : Nat), w' ≤ T ∧
      (∀ post : Int32 → SX → Prop, post r (nI n, nI T, nI w', op, ax, ay, az, va, na, wb) → wX_runTo_16 post (nI j) (nI n) (nI T) (nI w) op ax ay az va na wb (d + 1) (nI s)) ∧
      (∀ (post : Int32 → SY → Prop) (nx hl wv wc : Int32) (vr ce : Nat → Int32), (∀ nx' hl' wv' wc' vr' ce', post r (nI n, inp, nI w', nx', hl', wv', wc', op, ax, ay, az, vr', ce')) →
        wY_runTo_22 post (nI j) (nI T) (d + 1) (nI s) (nI n) inp (nI w) nx hl wv wc op ax ay az vr ce) := by
  have hT2 := hR.1
  intro d
  induction d with
  | zero =>
    intro s hs
    refine ⟨-3, w, hw, fun post h => ?_, fun post nx hl wv wc vr ce h => ?_⟩
    · rw [wX_runTo_16]
      exact br_t (nI_lt (by omega) (by omega)) h
    · rw [wY_runTo_22]
      exact br_t (nI_lt (by omega) (by omega)) (h _ _ _ _ _ _)
  | succ d ih =>
    intro s hs
    have hp := td_pc20 hP hT hR s (by omega)
    have hx := hB.1 s (by omega)
    have hin : vp_in (nI s) 201 := vp_in_nI (by omega) (by decide)
    by_cases e : nI (pc s) = nI j
    · refine ⟨nI s, s, by omega, fun post h => ?_, fun post nx hl wv wc vr ce h => ?_⟩
      · rw [wX_runTo_16]
        dsimp only
        rw [nI_clamp (show s < 2 ^ 31 by omega), hx]
        exact br_f (nI_nlt (by omega) (by omega)) ⟨hin, br_t e h⟩
      · rw [wY_runTo_22]
        refine br_f (nI_nlt (by omega) (by omega)) (td_Ysta hP hT hR (by omega) fun nx' hl' wv' wc' vr' ce' hY => ?_)
        exact br_t (hY.1.trans e) (h _ _ _ _ _ _)
    · obtain ⟨r, w', hw', hX, hY⟩ := ih (s + 1) (by omega)
      refine ⟨r, w', hw', fun post h => ?_, fun post nx hl wv wc vr ce h => ?_⟩
      · rw [wX_runTo_16]
        dsimp only
        rw [nI_clamp (show s < 2 ^ 31 by omega), hx]
        exact br_f (nI_nlt (by omega) (by omega)) ⟨hin, br_f e (nm_r (nI_1 s) (hX post h))⟩
      · rw [wY_runTo_22]
        refine br_f (nI_nlt (by omega) (by omega)) (td_Ysta hP hT hR (by omega) fun nx' hl' wv' wc' vr' ce' hY' => ?_)
        exact br_f (fun z => e (hY'.1.symm.trans z)) (nm_r (nI_1 s) (hY post _ _ _ _ _ _ h))
/-- both scan down from the time s - 1 -/
theorem td_dn (hP : td_Pg n op ax ay az) (hT : td_Tr op ax ay az inp pc me wr) (hR : td_Run n op pc T) (hB : td_Tab pc me wr T va na wb) (hw : w ≤ T) {j : Nat} (hj : j < 20) :
    ∀ s : Nat, s ≤ T → ∃ (r : Int32) (w' : Nat), w' ≤ T ∧
      (∀ post : Int32 → SX → Prop, post r (nI n, nI T, nI w', op, ax, ay, az, va, na, wb) → wX_backTo_16 post (nI j) (nI n) (nI T) (nI w) op ax ay az va na wb (s + 1) (nI s - 1)) ∧
      (∀ (post : Int32 → SY → Prop) (nx hl wv wc : Int32) (vr ce : Nat → Int32), (∀ nx' hl' wv' wc' vr' ce', post r (nI n, inp, nI w', nx', hl', wv', wc', op, ax, ay, az, vr', ce')) →
        wY_backTo_17 post (nI j) (s + 1) (nI s - 1) (nI n) inp (nI w) nx hl wv wc op ax ay az vr ce) := by
  have hT2 := hR.1
  intro s
  induction s with
  | zero =>
    intro _
    refine ⟨-3, w, hw, fun post h => ?_, fun post nx hl wv wc vr ce h => ?_⟩
    · rw [wX_backTo_16]
      exact br_t (by decide) h
    · rw [wY_backTo_17]
      exact br_t (by decide) (h _ _ _ _ _ _)
  | succ s ih =>
    intro hs
    have hp := td_pc20 hP hT hR s (by omega)
    have hx := hB.1 s (by omega)
    have hin : vp_in (nI s) 201 := vp_in_nI (by omega) (by decide)
    have hm : nI s + (-1) = nI s - 1 := (Int32.sub_eq_add_neg _ _).symm
    rw [nI_pred]
    by_cases e : nI (pc s) = nI j
    · refine ⟨nI s, s, by omega, fun post h => ?_, fun post nx hl wv wc vr ce h => ?_⟩
      · rw [wX_backTo_16]
        dsimp only
        rw [nI_clamp (show s < 2 ^ 31 by omega), hx]
        exact br_f (nI_pos (by omega)) ⟨hin, br_t e h⟩
      · rw [wY_backTo_17]
        refine br_f (nI_pos (by omega)) (td_Ysta hP hT hR (by omega) fun nx' hl' wv' wc' vr' ce' hY => ?_)
        exact br_t (hY.1.trans e) (h _ _ _ _ _ _)
    · obtain ⟨r, w', hw', hX, hY⟩ := ih (by omega)
      refine ⟨r, w', hw', fun post h => ?_, fun post nx hl wv wc vr ce h => ?_⟩
      · rw [wX_backTo_16]
        dsimp only
        rw [nI_clamp (show s < 2 ^ 31 by omega), hx]
        exact br_f (nI_pos (by omega)) ⟨hin, br_f e (nm_r hm (hX post h))⟩
      · rw [wY_backTo_17]
        refine br_f (nI_pos (by omega)) (td_Ysta hP hT hR (by omega) fun nx' hl' wv' wc' vr' ce' hY' => ?_)
        exact br_f (fun z => e (hY'.1.symm.trans z)) (nm_r hm (hY post _ _ _ _ _ _ h))
end
end
section
/-- both keep the program (n instructions), the input and the current time w; the component's tables hold the execution, which takes T steps -/
def i_Rel (k : Nat) (u : SX) (v : SY) : Prop :=
  ∃ (n T w : Nat) (op ax ay az va na wb : Nat → Int32) (inp : Int32) (pc : Nat → Nat) (me : Nat → Nat → Int32) (wr : Nat → Int32) (nx hl wv wc : Int32) (vr ce : Nat → Int32),
    u = (nI n, nI T, nI w, op, ax, ay, az, va, na, wb) ∧ v = (nI n, inp, nI w, nx, hl, wv, wc, op, ax, ay, az, vr, ce) ∧
    td_Pg n op ax ay az ∧ td_Tr op ax ay az inp pc me wr ∧ td_Run n op pc T ∧ td_Tab pc me wr T va na wb ∧ w ≤ T
theorem td_mk {k n T w : Nat} {op ax ay az va na wb : Nat → Int32} {inp : Int32} {pc : Nat → Nat} {me : Nat → Nat → Int32} {wr : Nat → Int32} {nx hl wv wc : Int32} {vr ce : Nat → Int32}
    (hP : td_Pg n op ax ay az) (hT : td_Tr op ax ay az inp pc me wr) (hR : td_Run n op pc T) (hB : td_Tab pc me wr T va na wb) (hw : w ≤ T) :
    i_Rel k (nI n, nI T, nI w, op, ax, ay, az, va, na, wb) (nI n, inp, nI w, nx, hl, wv, wc, op, ax, ay, az, vr, ce) :=
  ⟨n, T, w, op, ax, ay, az, va, na, wb, inp, pc, me, wr, nx, hl, wv, wc, vr, ce, rfl, rfl, hP, hT, hR, hB, hw⟩
theorem i_up {k : Nat} {u : SX} {v : SY} (h : i_Rel k u v) : i_Rel (k + 5) u v := h
theorem i_vc0 : wpX_init (fun u => wpY_init (fun v => i_Rel 0 u v)) := by
  obtain ⟨pc, me, wr, hT⟩ := td_TrE (fun _ => 0) (fun _ => 0) (fun _ => 0) (fun _ => 0) 0
  refine td_mk (k := 0) (n := 0) (T := 0) (w := 0) ⟨by omega, fun i hi => absurd hi (by omega)⟩ hT ⟨by omega, fun t ht => absurd ht (by omega), Or.inr (Or.inr (Nat.zero_le _))⟩
    ⟨fun t ht => ?_, fun t ht p hp => ?_, fun t h0 ht => absurd ht (by omega)⟩ (Nat.le_refl 0)
  · have e : t = 0 := by omega
    rw [e, hT.1, nI_0]
  · have e : t = 0 := by omega
    rw [e, hT.2.1]
    split <;> rfl
theorem i_vc_emit {k : Nat} {u : SX} {v : SY} (I : i_Rel k u v) (hk : k + 5 ≤ 2560) (v1 : Int32) (v2 : Int32) (v3 : Int32) (v4 : Int32) : wpX_emit (fun r u' => wpY_emit (fun r' v' => r' = r ∧ i_Rel (k + 5) u' v') v v1 v2 v3 v4) u v1 v2 v3 v4 := by
  obtain ⟨n, T, w, op, ax, ay, az, va, na, wb, inp, pc, me, wr, nx, hl, wv, wc, vr, ce, rfl, rfl, hP, hT, hR, hB, hw⟩ := I
  have hn := hP.1
  have hT2 := hR.1
  have h0 : na 0 = 0 := by rw [hB.1 0 (by omega), hT.1, nI_0]
  have hv : ∀ p, p < 14 → va p = if p = 5 then inp else 0 := fun p hp => by
    rw [← hT.2.1 p, ← hB.2.1 0 (by omega) p hp, Nat.zero_mul, Nat.zero_add]
  unfold wpX_emit
  dsimp only
  refine pk_lt n 20 (fun h => ?_) (fun h => ?_) rfl rfl (by omega) (by decide)
  · have hin : vp_in (nI n) 20 := vp_in_nI h (by decide)
    have hne : ¬ nI n = 20 := fun e => absurd ((nI_eq (a := n) (b := 20) (by omega) (by decide)).mp e) (by omega)
    refine td_Xins (fun ok => br_f (by decide) ?_) (fun ok => br_t rfl ?_)
    · rw [nI_clamp (show n < 2 ^ 31 by omega)]
      refine ⟨hin, nm_e ⟨hin, nm_e ⟨hin, nm_e ⟨hin, nm_e (nm_r (nI_1 n) ?_)⟩⟩⟩⟩
      have hP' : td_Pg (n + 1) (upd op n v1) (upd ax n v2) (upd ay n v3) (upd az n v4) := by
        refine ⟨by omega, fun i hi => ?_⟩
        by_cases e : i = n
        · rw [e, pk_us, pk_us, pk_us, pk_us]
          exact ok
        · rw [pk_un e, pk_un e, pk_un e, pk_un e]
          exact hP.2 i (by omega)
      refine td_Xex (inp := inp) hP' h0 hv fun T' pc' me' wr' va' na' wb' hT' hR' hB' => ?_
      unfold wpY_emit
      dsimp only
      refine br_f hne (td_Yfit (fun _ => br_f (by decide) ?_) (fun g => absurd ok g))
      rw [nI_clamp (show n < 2 ^ 31 by omega)]
      exact ⟨hin, nm_e ⟨hin, nm_e ⟨hin, nm_e ⟨hin, nm_e (nm_r (nI_1 n) ⟨rfl, td_mk (w := 0) hP' hT' hR' hB' (Nat.zero_le _)⟩)⟩⟩⟩⟩
    · unfold wpY_emit
      dsimp only
      exact br_f hne (td_Yfit (fun g => absurd g ok) (fun _ => br_t rfl ⟨rfl, td_mk hP hT hR hB hw⟩))
  · have e : n = 20 := by omega
    unfold wpY_emit
    dsimp only
    exact br_t (by rw [e]; rfl) ⟨rfl, td_mk hP hT hR hB hw⟩
theorem i_vc_input {k : Nat} {u : SX} {v : SY} (I : i_Rel k u v) (hk : k + 5 ≤ 2560) (v1 : Int32) : wpX_input (fun r u' => wpY_input (fun r' v' => r' = r ∧ i_Rel (k + 5) u' v') v v1) u v1 := by
  obtain ⟨n, T, w, op, ax, ay, az, va, na, wb, inp, pc, me, wr, nx, hl, wv, wc, vr, ce, rfl, rfl, hP, hT, hR, hB, hw⟩ := I
  have hn := hP.1
  have hT2 := hR.1
  have h0 : na 0 = 0 := by rw [hB.1 0 (by omega), hT.1, nI_0]
  have hv : ∀ p, p < 14 → upd va 5 v1 p = if p = 5 then v1 else 0 := fun p hp => by
    by_cases e : p = 5
    · rw [e, pk_us, if_pos rfl]
    · have h := hB.2.1 0 (by omega) p hp
      rw [hT.2.1 p, if_neg e, Nat.zero_mul, Nat.zero_add] at h
      rw [pk_un e, if_neg e, h]
  unfold wpX_input
  dsimp only
  refine nm_e (td_Xex (inp := v1) hP h0 hv fun T' pc' me' wr' va' na' wb' hT' hR' hB' => ?_)
  unfold wpY_input
  dsimp only
  exact td_Ysts hP hT' hR' fun nx' hl' wv' wc' vr' ce' => ⟨rfl, td_mk (w := 0) hP hT' hR' hB' (Nat.zero_le _)⟩
theorem i_vc_steps {k : Nat} {u : SX} {v : SY} (I : i_Rel k u v) (hk : k + 5 ≤ 2560) : wpX_steps (fun r => wpY_steps (fun r' v' => r' = r ∧ i_Rel (k + 5) u v') v) u := by
  obtain ⟨n, T, w, op, ax, ay, az, va, na, wb, inp, pc, me, wr, nx, hl, wv, wc, vr, ce, rfl, rfl, hP, hT, hR, hB, hw⟩ := I
  have hn := hP.1
  have hT2 := hR.1
  unfold wpX_steps
  exact td_Ysts hP hT hR fun nx' hl' wv' wc' vr' ce' => ⟨rfl, td_mk hP hT hR hB hw⟩
theorem i_vc_goTo {k : Nat} {u : SX} {v : SY} (I : i_Rel k u v) (hk : k + 5 ≤ 2560) (v1 : Int32) : wpX_goTo (fun r u' => wpY_goTo (fun r' v' => r' = r ∧ i_Rel (k + 5) u' v') v v1) u v1 := by
  obtain ⟨n, T, w, op, ax, ay, az, va, na, wb, inp, pc, me, wr, nx, hl, wv, wc, vr, ce, rfl, rfl, hP, hT, hR, hB, hw⟩ := I
  have hn := hP.1
  have hT2 := hR.1
  unfold wpX_goTo
  dsimp only
  refine br_c (fun h => ?_) fun h => ?_
  · unfold wpY_goTo
    exact br_t h ⟨rfl, td_mk hP hT hR hB hw⟩
  · obtain ⟨t, ht, rfl⟩ := nI_of h
    refine pk_le t T (fun g => ?_) (fun g => ?_) rfl rfl ht (by omega)
    · rw [nI_clamp ht, hB.1 t g]
      refine ⟨vp_in_nI (by omega) (by decide), ?_⟩
      unfold wpY_goTo
      dsimp only
      refine br_f h (td_Ysts hP hT hR fun nx' hl' wv' wc' vr' ce' => ?_)
      exact br_t (nI_le g (by omega)) (td_Ysta hP hT hR g fun nx2 hl2 wv2 wc2 vr2 ce2 hY => ⟨hY.1, td_mk hP hT hR hB g⟩)
    · unfold wpY_goTo
      dsimp only
      refine br_f h (td_Ysts hP hT hR fun nx' hl' wv' wc' vr' ce' => ?_)
      exact br_f (nI_ge g ht) ⟨rfl, td_mk hP hT hR hB hw⟩
theorem i_vc_time {k : Nat} {u : SX} {v : SY} (I : i_Rel k u v) (hk : k + 5 ≤ 2560) : wpX_time (fun r => wpY_time (fun r' => r' = r ∧ i_Rel (k + 5) u v) v) u := by
  obtain ⟨n, T, w, op, ax, ay, az, va, na, wb, inp, pc, me, wr, nx, hl, wv, wc, vr, ce, rfl, rfl, hP, hT, hR, hB, hw⟩ := I
  have hn := hP.1
  have hT2 := hR.1
  unfold wpX_time wpY_time
  exact ⟨rfl, td_mk hP hT hR hB hw⟩
theorem i_vc_variable {k : Nat} {u : SX} {v : SY} (I : i_Rel k u v) (hk : k + 5 ≤ 2560) (v1 : Int32) : wpX_variable (fun r => wpY_variable (fun r' v' => r' = r ∧ i_Rel (k + 5) u v') v v1) u v1 := by
  obtain ⟨n, T, w, op, ax, ay, az, va, na, wb, inp, pc, me, wr, nx, hl, wv, wc, vr, ce, rfl, rfl, hP, hT, hR, hB, hw⟩ := I
  have hn := hP.1
  have hT2 := hR.1
  unfold wpX_variable
  dsimp only
  refine td_Xvar (fun hx => br_f (by decide) ?_) (fun hx => br_t rfl ?_)
  · obtain ⟨j, hj, rfl⟩ := hx
    have e1 : nI w * 14 + nI j = nI (w * 14 + j) := by rw [show nI w * 14 = nI (w * 14) from pk_mul w 14, nI_add]
    rw [e1, nI_clamp (show w * 14 + j < 2 ^ 31 by omega), hB.2.1 w hw j (by omega)]
    refine ⟨vp_in_nI (by omega) (by decide), ?_⟩
    unfold wpY_variable
    dsimp only
    refine td_Ysta hP hT hR hw fun nx' hl' wv' wc' vr' ce' hY => ?_
    refine td_Yvar (fun _ => br_f (by decide) ⟨vp_in_nI hj (by decide), ?_, td_mk hP hT hR hB hw⟩) (fun g => absurd ⟨j, hj, rfl⟩ g)
    rw [nI_clamp (show j < 2 ^ 31 by omega)]
    exact hY.2.1 j hj
  · unfold wpY_variable
    dsimp only
    refine td_Ysta hP hT hR hw fun nx' hl' wv' wc' vr' ce' hY => ?_
    exact td_Yvar (fun g => absurd g hx) (fun _ => br_t rfl ⟨rfl, td_mk hP hT hR hB hw⟩)
theorem i_vc_cell {k : Nat} {u : SX} {v : SY} (I : i_Rel k u v) (hk : k + 5 ≤ 2560) (v1 : Int32) : wpX_cell (fun r => wpY_cell (fun r' v' => r' = r ∧ i_Rel (k + 5) u v') v v1) u v1 := by
  obtain ⟨n, T, w, op, ax, ay, az, va, na, wb, inp, pc, me, wr, nx, hl, wv, wc, vr, ce, rfl, rfl, hP, hT, hR, hB, hw⟩ := I
  have hn := hP.1
  have hT2 := hR.1
  unfold wpX_cell
  dsimp only
  refine td_Xcell (fun hx => br_f (by decide) ?_) (fun hx => br_t rfl ?_)
  · obtain ⟨j, hj, rfl⟩ := hx
    have e1 : nI w * 14 + 6 + nI j = nI (w * 14 + (6 + j)) := by
      rw [show nI w * 14 = nI (w * 14) from pk_mul w 14, show nI (w * 14) + 6 = nI (w * 14 + 6) from nI_add _ 6, nI_add, Nat.add_assoc]
    rw [e1, nI_clamp (show w * 14 + (6 + j) < 2 ^ 31 by omega), hB.2.1 w hw (6 + j) (by omega)]
    refine ⟨vp_in_nI (by omega) (by decide), ?_⟩
    unfold wpY_cell
    dsimp only
    refine td_Ysta hP hT hR hw fun nx' hl' wv' wc' vr' ce' hY => ?_
    refine br_f (nI_pos (by omega)) (br_f (nI_nlt (a := 7) (by omega) (by decide)) ⟨vp_in_nI hj (by decide), ?_, td_mk hP hT hR hB hw⟩)
    rw [nI_clamp (show j < 2 ^ 31 by omega)]
    exact hY.2.2.1 j hj
  · unfold wpY_cell
    dsimp only
    refine td_Ysta hP hT hR hw fun nx' hl' wv' wc' vr' ce' hY => ?_
    exact br_c (fun _ => ⟨rfl, td_mk hP hT hR hB hw⟩) fun g => br_c (fun _ => ⟨rfl, td_mk hP hT hR hB hw⟩) fun g7 => absurd (td_C_le.mpr ⟨g, Int32.not_lt.mp g7⟩) hx
theorem i_vc_lastWrite {k : Nat} {u : SX} {v : SY} (I : i_Rel k u v) (hk : k + 5 ≤ 2560) (v1 : Int32) (v2 : Int32) : wpX_lastWrite (fun r => wpY_lastWrite (fun r' v' => r' = r ∧ i_Rel (k + 5) u v') v v1 v2) u v1 v2 := by
  obtain ⟨n, T, w, op, ax, ay, az, va, na, wb, inp, pc, me, wr, nx, hl, wv, wc, vr, ce, rfl, rfl, hP, hT, hR, hB, hw⟩ := I
  have hn := hP.1
  have hT2 := hR.1
  have hm : i_Rel (k + 5) (nI n, nI T, nI w, op, ax, ay, az, va, na, wb) (nI n, inp, nI w, nx, hl, wv, wc, op, ax, ay, az, vr, ce) := td_mk hP hT hR hB hw
  unfold wpX_lastWrite
  dsimp only
  refine br_c (fun h0 => ?_) fun h0 => ?_
  · subst h0
    refine td_Xvar (fun hx => br_f (by decide) ?_) (fun hx => br_t rfl ?_)
    · obtain ⟨j, hj, rfl⟩ := hx
      exact td_Xls hB hT2 (nI j) hw (td_YlwV hP hT hR hw hj fun nx' hl' wv' wc' vr' ce' => ⟨rfl, td_mk hP hT hR hB hw⟩)
    · unfold wX_lastWrite_17
      exact br_f (by decide) (td_YlwB ⟨fun z => hx z.2, fun z => absurd z.1 (by decide)⟩ ⟨rfl, hm⟩)
  · unfold wX_lastWrite_17
    refine br_c (fun h1 => ?_) fun h1 => td_YlwB ⟨fun z => h0 z.1, fun z => h1 z.1⟩ ⟨rfl, hm⟩
    subst h1
    refine td_Xcell (fun hx => br_f (by decide) ?_) (fun hx => br_t rfl (td_YlwB ⟨fun z => h0 z.1, fun z => hx z.2⟩ ⟨rfl, hm⟩))
    obtain ⟨j, hj, rfl⟩ := hx
    rw [td_6]
    exact td_Xls hB hT2 (nI (6 + j)) hw (td_YlwC hP hT hR hw hj fun nx' hl' wv' wc' vr' ce' => ⟨rfl, td_mk hP hT hR hB hw⟩)
theorem i_vc_runTo {k : Nat} {u : SX} {v : SY} (I : i_Rel k u v) (hk : k + 5 ≤ 2560) (v1 : Int32) : wpX_runTo (fun r u' => wpY_runTo (fun r' v' => r' = r ∧ i_Rel (k + 5) u' v') v v1) u v1 := by
  obtain ⟨n, T, w, op, ax, ay, az, va, na, wb, inp, pc, me, wr, nx, hl, wv, wc, vr, ce, rfl, rfl, hP, hT, hR, hB, hw⟩ := I
  have hn := hP.1
  have hT2 := hR.1
  unfold wpX_runTo
  dsimp only
  refine td_Xins_no (fun hx => br_f (by decide) ?_) (fun hx => br_t rfl ?_)
  · obtain ⟨j, hj, rfl⟩ := hx
    obtain ⟨r, w', hw', hX, hY⟩ := td_up hP hT hR hB hw hj (T - w) (w + 1) (by omega)
    refine nm_r (nI_1 w) ⟨_, hX _ ?_⟩
    unfold wpY_runTo
    dsimp only
    refine td_Ypl (fun _ => br_f (by decide) (td_Ysts hP hT hR fun nx' hl' wv' wc' vr' ce' => ?_)) (fun g => absurd ⟨j, hj, rfl⟩ g)
    exact nm_r (nI_1 w) ⟨_, hY _ _ _ _ _ _ _ fun nx2 hl2 wv2 wc2 vr2 ce2 => ⟨rfl, td_mk hP hT hR hB hw'⟩⟩
  · unfold wpY_runTo
    dsimp only
    exact td_Ypl (fun g => absurd g hx) (fun _ => br_t rfl ⟨rfl, td_mk hP hT hR hB hw⟩)
theorem i_vc_backTo {k : Nat} {u : SX} {v : SY} (I : i_Rel k u v) (hk : k + 5 ≤ 2560) (v1 : Int32) : wpX_backTo (fun r u' => wpY_backTo (fun r' v' => r' = r ∧ i_Rel (k + 5) u' v') v v1) u v1 := by
  obtain ⟨n, T, w, op, ax, ay, az, va, na, wb, inp, pc, me, wr, nx, hl, wv, wc, vr, ce, rfl, rfl, hP, hT, hR, hB, hw⟩ := I
  have hn := hP.1
  have hT2 := hR.1
  unfold wpX_backTo
  dsimp only
  refine td_Xins_no (fun hx => br_f (by decide) ?_) (fun hx => br_t rfl ?_)
  · obtain ⟨j, hj, rfl⟩ := hx
    obtain ⟨r, w', hw', hX, hY⟩ := td_dn hP hT hR hB hw hj w hw
    refine nm_e ⟨_, hX _ ?_⟩
    unfold wpY_backTo
    dsimp only
    refine td_Ypl (fun _ => br_f (by decide) ?_) (fun g => absurd ⟨j, hj, rfl⟩ g)
    exact nm_e ⟨_, hY _ _ _ _ _ _ _ fun nx2 hl2 wv2 wc2 vr2 ce2 => ⟨rfl, td_mk hP hT hR hB hw'⟩⟩
  · unfold wpY_backTo
    dsimp only
    exact td_Ypl (fun g => absurd g hx) (fun _ => br_t rfl ⟨rfl, td_mk hP hT hR hB hw⟩)
theorem i_vc_backBeforeWrite {k : Nat} {u : SX} {v : SY} (I : i_Rel k u v) (hk : k + 5 ≤ 2560) (v1 : Int32) : wpX_backBeforeWrite (fun r u' => wpY_backBeforeWrite (fun r' v' => r' = r ∧ i_Rel (k + 5) u' v') v v1) u v1 := by
  obtain ⟨n, T, w, op, ax, ay, az, va, na, wb, inp, pc, me, wr, nx, hl, wv, wc, vr, ce, rfl, rfl, hP, hT, hR, hB, hw⟩ := I
  have hn := hP.1
  have hT2 := hR.1
  unfold wpX_backBeforeWrite
  dsimp only
  refine td_Xvar (fun hx => br_f (by decide) ?_) (fun hx => br_t rfl ?_)
  · obtain ⟨j, hj, rfl⟩ := hx
    have hl' := td_last_le wr (nI j) w
    by_cases e : td_last wr (nI j) w = 0
    · refine td_Xls hB hT2 (nI j) hw (br_t (by rw [e]; rfl) ?_)
      unfold wpY_backBeforeWrite
      dsimp only
      refine td_Yvar (fun _ => br_f (by decide) (td_YlwV hP hT hR hw hj fun nx2 hl2 wv2 wc2 vr2 ce2 => ?_)) (fun g => absurd ⟨j, hj, rfl⟩ g)
      exact br_t (by rw [e]; rfl) ⟨rfl, td_mk hP hT hR hB hw⟩
    · have e1 : nI (td_last wr (nI j) w) - 1 = nI (td_last wr (nI j) w - 1) := pk_sub (b := 1) (by omega)
      refine td_Xls hB hT2 (nI j) hw (br_f (nI_ne0 (by omega) (by omega)) (nm_r e1 ?_))
      unfold wpY_backBeforeWrite
      dsimp only
      refine td_Yvar (fun _ => br_f (by decide) (td_YlwV hP hT hR hw hj fun nx2 hl2 wv2 wc2 vr2 ce2 => ?_)) (fun g => absurd ⟨j, hj, rfl⟩ g)
      exact br_f (nI_ne0 (by omega) (by omega)) (nm_r e1 ⟨rfl, td_mk hP hT hR hB (by omega)⟩)
  · unfold wpY_backBeforeWrite
    dsimp only
    exact td_Yvar (fun g => absurd g hx) (fun _ => br_t rfl ⟨rfl, td_mk hP hT hR hB hw⟩)
end
