/-! HOLDER: ranks -/
def hI (q : Nat × Nat) (t : Nat) (b : Int32) (k : Nat) : Prop := (b = -1 ∧ ∀ j, j < k → tH j q = true → tL j < t) ∨ ∃ i, i < k ∧ b = nI i ∧ tH i q = true ∧ t ≤ tL i ∧ ∀ j, j < k → tH j q = true → t ≤ tL j → tL i ≤ tL j
def hR (q : Nat × Nat) (m s : Nat) : Nat := nc_F (fun j => tH j q && decide (tL j < s)) (cu m) 0
def hN (q : Nat × Nat) (m : Nat) : Nat := nc_F (fun j => tH j q) (cu m) 0
def hs (q : Nat × Nat) (m r : Nat) (v : Int32) : Prop := (v = -1 ∧ hN q m ≤ r) ∨ ∃ k, k < cu m ∧ v = nI k ∧ tH k q = true ∧ hR q m (tL k) = r
theorem hI_hs {q : Nat × Nat} {t m : Nat} {v : Int32} (h : hI q t v (cu m)) : hs q m (hR q m t) v := by
  rcases h with ⟨e, h⟩ | ⟨i, hi, e, h1, h2, h3⟩
  · refine Or.inl ⟨e, Nat.le_of_eq ?_⟩
    unfold hN hR
    refine nc_congr _ _ (fun j _ q2 => ?_)
    show tH j q = (tH j q && decide (tL j < t))
    by_cases c : tH j q = true
    · rw [c, decide_eq_true (h j (by omega) c)]; rfl
    · rw [Bool.eq_false_iff.mpr c]; rfl
  · refine Or.inr ⟨i, hi, e, h1, ?_⟩
    unfold hR
    refine nc_congr _ _ (fun j _ q2 => ?_)
    show (tH j q && decide (tL j < tL i)) = (tH j q && decide (tL j < t))
    by_cases c : tH j q = true
    · have := h3 j (by omega) c
      by_cases g : tL j < t
      · rw [decide_eq_true g, decide_eq_true (show tL j < tL i by omega)]
      · rw [decide_eq_false g, decide_eq_false (show ¬ tL j < tL i by omega)]
    · rw [Bool.eq_false_iff.mpr c]; rfl
theorem hR_0 (q : Nat × Nat) (m : Nat) : hR q m 0 = 0 := by
  unfold hR
  refine nc_zero _ _ (fun j _ _ => ?_)
  show (tH j q && decide (tL j < 0)) = false
  rw [decide_eq_false (Nat.not_lt_zero _), Bool.and_false]
theorem hR_1 {q : Nat × Nat} {m k : Nat} (h8 : m ≤ 8) (hk : k < cu m) (h : tH k q = true) : hR q m (tL k + 1) = hR q m (tL k) + 1 := by
  have hle := (cu_le m (by omega)).1
  unfold hR
  refine nc_one (p := k) _ _ (by omega) (by omega) ?_ (fun j _ q2 => ?_)
  · show (tH k q && decide (tL k < tL k)) = false
    rw [decide_eq_false (Nat.lt_irrefl _), Bool.and_false]
  · show (tH j q && decide (tL j < tL k + 1)) = (tH j q && decide (tL j < tL k) || decide (j = k))
    by_cases c : j = k
    · subst c
      rw [h, decide_eq_true (show tL j < tL j + 1 by omega), decide_eq_true (rfl : j = j), Bool.or_true]; rfl
    · have := (tf_x (show j < 236 by omega) (show k < 236 by omega) c).1
      rw [decide_eq_false c, Bool.or_false]
      by_cases g : tL j < tL k
      · rw [decide_eq_true g, decide_eq_true (show tL j < tL k + 1 by omega)]
      · rw [decide_eq_false g, decide_eq_false (show ¬ tL j < tL k + 1 by omega)]
theorem hR_lt {q : Nat × Nat} {m k : Nat} (h8 : m ≤ 8) (hk : k < cu m) (h : tH k q = true) : hR q m (tL k) < hN q m := by
  have e := hR_1 h8 hk h
  have : hR q m (tL k + 1) ≤ hN q m := by
    unfold hR hN
    refine nc_mono _ _ (fun j _ _ g => ?_)
    have g : (tH j q && decide (tL j < tL k + 1)) = true := g
    rw [Bool.and_eq_true] at g
    exact g.1
  omega
theorem hR_mono {q : Nat × Nat} {m s t : Nat} (h : s ≤ t) : hR q m s ≤ hR q m t := by
  unfold hR
  refine nc_mono _ _ (fun j _ _ g => ?_)
  have g : (tH j q && decide (tL j < s)) = true := g
  show (tH j q && decide (tL j < t)) = true
  rw [Bool.and_eq_true] at g
  rw [g.1, decide_eq_true (Nat.lt_of_lt_of_le (of_decide_eq_true g.2) h)]
  rfl
theorem hR_inj {q : Nat × Nat} {m i k : Nat} (h8 : m ≤ 8) (hi : i < cu m) (hk : k < cu m) (h1 : tH i q = true) (h2 : tH k q = true) (h : hR q m (tL i) = hR q m (tL k)) : i = k := by
  have hle := (cu_le m (by omega)).1
  have e1 := hR_1 h8 hi h1
  have e2 := hR_1 h8 hk h2
  rcases Nat.decEq i k with c | c
  · exfalso
    have := (tf_x (show i < 236 by omega) (show k < 236 by omega) c).1
    by_cases g : tL i < tL k
    · have := hR_mono (q := q) (m := m) (show tL i + 1 ≤ tL k by omega); omega
    · have := hR_mono (q := q) (m := m) (show tL k + 1 ≤ tL i by omega); omega
  · exact c
/-- of two PAIRS that hold one ANGLE the one with the lesser end holds the other -/
theorem tP_iff {q : Nat × Nat} {j k : Nat} (ho : 0 < q.2) (hj : j < 236) (hk : k < 236) (hne : j ≠ k) (h1 : tH j q = true) (h2 : tH k q = true) : tP j k = decide (tL j < tL k) := by
  have a1 := of_decide_eq_true h1
  have a2 := of_decide_eq_true h2
  obtain ⟨u1, -⟩ := tp_leU (x := ts k) (u := q.1) (b := q.2) hk
  obtain ⟨-, u2⟩ := tp_leU (x := tg j) (u := q.1) (b := q.2) hj
  have v1 := u1.mpr a2.1
  have v2 := u2.mpr a1.2
  have v : ts k * tt k * q.2 ≤ tg j * tt j * q.2 := Nat.le_trans v1 v2
  have v : tL k ≤ tG j := Nat.le_of_mul_le_mul_right v ho
  obtain ⟨x1, -, -, x4⟩ := tf_x hj hk hne
  have e1 := tp_le (x := ts j) (y := ts k) hj hk
  have e2 := tp_le (x := tg k) (y := tg j) hk hj
  by_cases g : tL j < tL k
  · rw [decide_eq_true g]
    exact decide_eq_true ⟨e1.mp (Nat.le_of_lt g), e2.mp (x4 g v)⟩
  · rw [decide_eq_false g]
    refine decide_eq_false (fun y => ?_)
    have : tL j ≤ tL k := e1.mpr y.1
    omega
