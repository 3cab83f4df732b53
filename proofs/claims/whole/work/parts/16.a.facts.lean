/-! the tables' numbers -/
def tl (k : Nat) : Nat := (tb.getD k (0, 0, 0)).1
def ts (k : Nat) : Nat := (tb.getD k (0, 0, 0)).2.1
def tg (k : Nat) : Nat := (tb.getD k (0, 0, 0)).2.2
def tw (k : Nat) : Nat := 2 ^ tl k - 1
def tt (k : Nat) : Nat := 21082635 / tw k
def cu (n : Nat) : Nat := cub.getD n 0
def tf_B (k : Nat) : Bool := Nat.ble 1 (tl k) && Nat.ble (tl k) 8 && Nat.ble (ts k) (tg k) && Nat.blt (tg k) (tw k) && Nat.beq (tw k * tt k) 21082635
theorem tf_all : ∀ k, k < 236 → tf_B k = true := by decide +kernel
theorem tf {k : Nat} (hk : k < 236) : 1 ≤ tl k ∧ tl k ≤ 8 ∧ ts k ≤ tg k ∧ tg k < tw k ∧ tw k * tt k = 21082635 := by
  have h := tf_all k hk
  unfold tf_B at h
  rw [Bool.and_eq_true, Bool.and_eq_true, Bool.and_eq_true, Bool.and_eq_true] at h
  exact ⟨Nat.ble_eq.mp h.1.1.1.1, Nat.ble_eq.mp h.1.1.1.2, Nat.ble_eq.mp h.1.1.2, Nat.blt_eq.mp h.1.2, Nat.beq_eq.mp h.2⟩
def tf_uB (k n : Nat) : Bool := Nat.ble (tl k) n == Nat.blt k (cu n)
theorem tf_uAll : ∀ n, n < 9 → ∀ k, k < 236 → tf_uB k n = true := by decide +kernel
theorem tf_u {n k : Nat} (hn : n ≤ 8) (hk : k < 236) : tl k ≤ n ↔ k < cu n := by
  have h := tf_uAll n (by omega) k hk
  unfold tf_uB at h
  rw [nu_ble, nu_blt] at h
  have h := eq_of_beq h
  constructor
  · intro q; rw [decide_eq_true q] at h; exact of_decide_eq_true h.symm
  · intro q; rw [decide_eq_true q] at h; exact of_decide_eq_true h
theorem cu_le : ∀ n, n < 9 → cu n ≤ 236 ∧ cu (n - 1) ≤ cu n := by decide +kernel
/-- no two PAIRS share an end, no LEAVES CROSS -/
def tf_xB (i j : Nat) : Bool := Nat.beq i j || (!(Nat.beq (ts i * tt i) (ts j * tt j)) && !(Nat.beq (tg i * tt i) (tg j * tt j)) && !(Nat.beq (ts i * tt i) (tg j * tt j)) && (!(Nat.blt (ts i * tt i) (ts j * tt j)) || !(Nat.ble (ts j * tt j) (tg i * tt i)) || Nat.ble (tg j * tt j) (tg i * tt i)))
theorem tf_xAll : ∀ i, i < 236 → ∀ j, j < 236 → tf_xB i j = true := by decide +kernel
def tL (k : Nat) : Nat := ts k * tt k
def tG (k : Nat) : Nat := tg k * tt k
theorem tf_x {i j : Nat} (hi : i < 236) (hj : j < 236) (hij : i ≠ j) : tL i ≠ tL j ∧ tG i ≠ tG j ∧ tL i ≠ tG j ∧ (tL i < tL j → tL j ≤ tG i → tG j ≤ tG i) := by
  have h := tf_xAll i hi j hj
  unfold tf_xB at h
  rw [nu_beq, nu_beq, nu_beq, nu_beq, nu_blt, nu_ble, nu_ble] at h
  unfold tL tG
  simp only [Bool.or_eq_true, Bool.and_eq_true, Bool.not_eq_true', decide_eq_true_eq, decide_eq_false_iff_not] at h
  rcases h with h | ⟨⟨⟨h1, h2⟩, h3⟩, h4⟩
  · exact absurd h hij
  · refine ⟨h1, h2, h3, fun q1 q2 => ?_⟩
    rcases h4 with (h4 | h4) | h4
    · exact absurd q1 h4
    · exact absurd q2 h4
    · exact h4
/-- every ANGLE that comes back after at most 8 DOUBLINGS has its PAIR -/
def tf_eB (n a : Nat) : Bool := !(Nat.beq (nt_L ((2 ^ n - 1) / Nat.gcd a (2 ^ n - 1))) n) || (List.range 236).any fun k => Nat.beq (tl k) n && (Nat.beq (ts k) a || Nat.beq (tg k) a)
theorem tf_eAll : ∀ n, n < 9 → 1 ≤ n → ∀ a, a < 2 ^ n - 1 → tf_eB n a = true := by decide +kernel
theorem tf_e {n a : Nat} (h1 : 1 ≤ n) (h8 : n ≤ 8) (ha : a < 2 ^ n - 1) (hL : nt_L ((2 ^ n - 1) / Nat.gcd a (2 ^ n - 1)) = n) : ∃ k, k < 236 ∧ tl k = n ∧ (ts k = a ∨ tg k = a) := by
  have h := tf_eAll n (by omega) h1 a ha
  unfold tf_eB at h
  rw [nu_beq, decide_eq_true hL] at h
  have h : ((List.range 236).any fun k => Nat.beq (tl k) n && (Nat.beq (ts k) a || Nat.beq (tg k) a)) = true := h
  rw [List.any_eq_true] at h
  obtain ⟨k, hk, h⟩ := h
  rw [Bool.and_eq_true, Bool.or_eq_true] at h
  exact ⟨k, List.mem_range.mp hk, Nat.beq_eq.mp h.1, h.2.imp Nat.beq_eq.mp Nat.beq_eq.mp⟩
theorem tt_pos {k : Nat} (hk : k < 236) : 0 < tt k := by
  obtain ⟨-, -, -, -, h⟩ := tf hk
  rcases Nat.eq_zero_or_pos (tt k) with q | q
  · rw [q] at h; omega
  · exact q
theorem tw_bnd {k : Nat} (hk : k < 236) : 1 ≤ tw k ∧ tw k ≤ 255 := nu_pw8 (tf hk).1 (tf hk).2.1
theorem tG_lt {k : Nat} (hk : k < 236) : tG k < 21082635 ∧ tL k ≤ tG k := by
  obtain ⟨-, -, h3, h4, h5⟩ := tf hk
  unfold tG tL
  refine ⟨?_, Nat.mul_le_mul_right _ h3⟩
  rw [← h5]
  exact Nat.mul_lt_mul_of_pos_right h4 (tt_pos hk)
/-- in PARTS as in fractions -/
theorem tp_le {i j x y : Nat} (hi : i < 236) (hj : j < 236) : x * tt i ≤ y * tt j ↔ x * tw j ≤ y * tw i := by
  have e1 := (tf hi).2.2.2.2
  have e2 := (tf hj).2.2.2.2
  have t1 := tt_pos hi
  have t2 := tt_pos hj
  have w1 := (tw_bnd hi).1
  have w2 := (tw_bnd hj).1
  have a1 : x * tw j * 21082635 = x * tt i * (tw i * tw j) := by rw [← e1, Nat.mul_assoc, Nat.mul_assoc]; congr 1; rw [Nat.mul_comm (tw j), Nat.mul_comm (tw i) (tt i), Nat.mul_assoc]
  have a2 : y * tw i * 21082635 = y * tt j * (tw i * tw j) := by rw [← e2, Nat.mul_assoc, Nat.mul_assoc]; congr 1; rw [← Nat.mul_assoc, Nat.mul_comm (tt j)]
  have wp : 0 < tw i * tw j := Nat.mul_pos w1 w2
  constructor
  · intro h
    have := Nat.mul_le_mul_right (tw i * tw j) h
    omega
  · intro h
    have : x * tt i * (tw i * tw j) ≤ y * tt j * (tw i * tw j) := by omega
    exact Nat.le_of_mul_le_mul_right this wp
theorem tp_leU {i x u b : Nat} (hi : i < 236) : (x * tt i * b ≤ u * 21082635 ↔ x * b ≤ u * tw i) ∧ (u * 21082635 ≤ x * tt i * b ↔ u * tw i ≤ x * b) := by
  have e1 := (tf hi).2.2.2.2
  have t1 := tt_pos hi
  have a1 : x * tt i * b = x * b * tt i := Nat.mul_right_comm _ _ _
  have a2 : u * 21082635 = u * tw i * tt i := by rw [← e1, Nat.mul_assoc]
  rw [a1, a2]
  exact ⟨⟨fun h => Nat.le_of_mul_le_mul_right h t1, fun h => Nat.mul_le_mul_right _ h⟩, ⟨fun h => Nat.le_of_mul_le_mul_right h t1, fun h => Nat.mul_le_mul_right _ h⟩⟩
