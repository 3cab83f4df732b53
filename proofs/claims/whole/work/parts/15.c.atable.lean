/-! the class's search for the PAIRS, in its PARTS -/
def ctb : List (Nat × Nat) := tb.map fun t => (t.2.1 * (21082635 / (2 ^ t.1 - 1)), t.2.2 * (21082635 / (2 ^ t.1 - 1)))
def cub : List Nat := [0, 1, 2, 5, 11, 26, 53, 116, 236]
def cp_x (a b : Nat) (t : Nat × Nat) : Bool := !(Nat.beq a t.1) && !(Nat.beq a t.2) && !(Nat.beq b t.1) && !(Nat.beq b t.2) && ((Nat.blt a t.1 != Nat.blt a t.2) != (Nat.blt b t.1 != Nat.blt b t.2))
def cp_b (st a : Nat) : Nat → Nat → Nat → List (Nat × Nat) → Option (Nat × List (Nat × Nat))
  | 0, _, m, T => some (m, T)
  | k + 1, b, m, T => if m.testBit a = true then (if m.testBit b = true then (if T.any (cp_x (a * st) (b * st)) = true then cp_b st a k (b + 1) m T else if T.length < 236 then cp_b st a k (b + 1) (m ^^^ 2 ^ a ^^^ 2 ^ b) (T ++ [(a * st, b * st)]) else none) else cp_b st a k (b + 1) m T) else some (m, T)
def cp_a (st e : Nat) : Nat → Nat → Nat → List (Nat × Nat) → Option (List (Nat × Nat))
  | 0, _, _, T => some T
  | k + 1, a, m, T => (cp_b st a (e - a - 1) (a + 1) m T).bind fun r => cp_a st e k (a + 1) r.1 r.2
def cp_rF (a e : Nat) : Nat → Nat → Nat
  | 0, j => j
  | k + 1, j => if Nat.beq (a * 2 ^ j % e) a then j else cp_rF a e k (j + 1)
def cp_ring (n a : Nat) : Nat := cp_rF a (2 ^ n - 1) n 1
def cp_mask (n : Nat) : Nat → Nat
  | 0 => 0
  | k + 1 => cp_mask n k ||| if Nat.beq (cp_ring n k) n then 2 ^ k else 0
def cp_n : Nat → Nat → List (Nat × Nat) → List Nat → Option (List (Nat × Nat) × List Nat)
  | 0, _, T, U => some (T, U)
  | k + 1, n, T, U => (cp_a (21082635 / (2 ^ n - 1)) (2 ^ n - 1) (2 ^ n - 1) 0 (cp_mask n (2 ^ n - 1)) T).bind fun r => cp_n k (n + 1) r (U ++ [r.length])
theorem cp_tb : cp_n 7 2 [(0, 0)] [0, 1] = some (ctb, cub) := by decide +kernel
def cp_rgB (n a : Nat) : Bool := Nat.ble 1 (cp_ring n a) && Nat.ble (cp_ring n a) n && Nat.beq (a * 2 ^ cp_ring n a % (2 ^ n - 1)) a && (List.range (cp_ring n a)).all fun j => Nat.beq j 0 || !(Nat.beq (a * 2 ^ j % (2 ^ n - 1)) a)
theorem cp_rgAll : ∀ n, n < 9 → 2 ≤ n → ∀ a, a < 2 ^ n - 1 → cp_rgB n a = true := by decide +kernel
theorem cp_rings (n : Nat) (h1 : n < 9) (h2 : 2 ≤ n) (a : Nat) (h3 : a < 2 ^ n - 1) : 1 ≤ cp_ring n a ∧ cp_ring n a ≤ n ∧ a * 2 ^ cp_ring n a % (2 ^ n - 1) = a ∧ ∀ j, j < cp_ring n a → 1 ≤ j → ¬ a * 2 ^ j % (2 ^ n - 1) = a := by
  have h := cp_rgAll n h1 h2 a h3
  unfold cp_rgB at h
  rw [Bool.and_eq_true, Bool.and_eq_true, Bool.and_eq_true, List.all_eq_true] at h
  refine ⟨Nat.ble_eq.mp h.1.1.1, Nat.ble_eq.mp h.1.1.2, Nat.beq_eq.mp h.1.2, fun j q1 q2 q3 => ?_⟩
  have := h.2 j (List.mem_range.mpr q1)
  rw [nu_beq, nu_beq, decide_eq_true q3, decide_eq_false (show ¬ j = 0 by omega)] at this
  cases this
