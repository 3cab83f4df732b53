/-! TAKE -/
theorem nu_mmod (x y b : Nat) : x % b * y % b = x * y % b := by
  rw [Nat.mul_mod, Nat.mod_mod, ← Nat.mul_mod]
theorem ta_per {u b L : Nat} (h : 2 ^ L % b = 1 % b) (t : Nat) : u * 2 ^ (t % L) % b = u * 2 ^ t % b := by
  have hk : ∀ k, (2 ^ L) ^ k % b = 1 % b := by
    intro k
    induction k with
    | zero => rfl
    | succ k ih => rw [Nat.pow_succ, Nat.mul_mod, ih, h, ← Nat.mul_mod]
  have e : 2 ^ t = (2 ^ L) ^ (t / L) * 2 ^ (t % L) := by
    rw [← Nat.pow_mul, ← Nat.pow_add, Nat.div_add_mod]
  rw [e, Nat.mul_left_comm, ← nu_mmod ((2 ^ L) ^ (t / L)), hk, nu_mmod, Nat.one_mul]
theorem ta_step {x b j : Nat} (hb : 0 < b) : x * 2 ^ (j + 1) / b = 2 * (x * 2 ^ j / b) + if b ≤ 2 * (x * 2 ^ j % b) then 1 else 0 := by
  have e : x * 2 ^ (j + 1) = 2 * (x * 2 ^ j) := by rw [Nat.pow_succ, ← Nat.mul_assoc, Nat.mul_comm 2]
  rw [e]
  generalize x * 2 ^ j = y
  have h1 := Nat.div_add_mod y b
  have h2 := Nat.mod_lt y hb
  have e2 : 2 * y = b * (2 * (y / b)) + 2 * (y % b) := by
    conv => lhs; rw [← h1]
    rw [Nat.mul_add, Nat.mul_left_comm]
  rw [e2, Nat.mul_add_div hb]
  congr 1
  by_cases c : b ≤ 2 * (y % b)
  · rw [if_pos c]
    exact Nat.div_eq_of_lt_le (by omega) (by omega)
  · rw [if_neg c]
    exact Nat.div_eq_of_lt (by omega)
def ta_D (u b m i : Nat) : Nat := u * 2 ^ (m * i) % b * 2 ^ m / b
def ta_A (u b m g : Nat) : Nat → Nat
  | 0 => 0
  | i + 1 => 2 * ta_A u b m g i + if ta_D u b m i = g then 1 else 0
def ta_O (u b m s g : Nat) : Nat → Nat → Bool
  | 0, _ => true
  | d + 1, i => (decide (ta_D u b m i = s) || decide (ta_D u b m i = g)) && ta_O u b m s g d (i + 1)
theorem ta_le (u b m g : Nat) : ∀ i, ta_A u b m g i ≤ 2 ^ i - 1
  | 0 => by rw [ta_A]; exact Nat.zero_le _
  | i + 1 => by
    have := ta_le u b m g i
    have := Nat.two_pow_pos i
    rw [ta_A, Nat.pow_succ]
    split <;> omega
theorem ta_nx {u b m i : Nat} : u * 2 ^ (m * (i + 1)) % b = u * 2 ^ (m * i) % b * 2 ^ m % b := by
  rw [Nat.mul_succ, Nat.pow_add, ← Nat.mul_assoc, nu_mmod]
theorem ta_Dlt {u b m i : Nat} (hb : 0 < b) : ta_D u b m i < 2 ^ m := by
  unfold ta_D
  have h := Nat.mod_lt (u * 2 ^ (m * i)) hb
  rw [Nat.div_lt_iff_lt_mul hb, Nat.mul_comm (2 ^ m)]
  exact Nat.mul_lt_mul_of_pos_right h (Nat.two_pow_pos m)
section TA
variable {z sz n : Nat} {w : mg_H} {A : ws_A} {S : ws_S} {pa : Option Nat} {p : Nat}
theorem ct_takeL {b m s g B : Nat} {q : Nat × Nat} (h4 : w b = some (ws_turn q)) (ho : ws_ok q) (hm : m ≤ 8) (hs : s < 2 ^ 30) (hg : g < 2 ^ 30) (hB : B ≤ 20) (sz : Nat) : ∀ d N i, i + d = B → d < N → fX3_digitsTakenOut_b37 N (nI m) b (nI B) (nI s) (nI g) (lN (ta_A q.1 q.2 m g i)) (lN (q.1 * 2 ^ (m * i) % q.2)) (nI i) w sz = if ta_O q.1 q.2 m s g d i then some (lN (ta_A q.1 q.2 m g B), w, 0, 0) else some (-1, w, 0, 0) := by
  have hl := nt_Glt ho.2.2
  obtain ⟨-, t1, -, -⟩ := tu_g h4
  intro d
  induction d with
  | zero =>
    intro N i q1 q2
    obtain ⟨N, rfl⟩ : ∃ m, N = m + 1 := ⟨N - 1, by omega⟩
    obtain rfl : i = B := by omega
    rw [fX3_digitsTakenOut_b37, if_pos (nI_le (by omega) (by omega)), ta_O, if_pos rfl]
  | succ d ih =>
    intro N i q1 q2
    obtain ⟨N, rfl⟩ : ∃ m, N = m + 1 := ⟨N - 1, by omega⟩
    have ih := ih N (i + 1) (by omega) (by omega)
    have hr := Nat.mod_lt (q.1 * 2 ^ (m * i)) hl.1
    have hM : 2 ^ m ≤ 2 ^ 8 := Nat.pow_le_pow_right (by omega) hm
    have hb : q.1 * 2 ^ (m * i) % q.2 * 2 ^ m < 2 ^ 40 := by
      have : q.1 * 2 ^ (m * i) % q.2 * 2 ^ m ≤ 2 ^ 20 * 2 ^ 8 := Nat.mul_le_mul (by omega) hM
      omega
    have hD := ta_Dlt (u := q.1) (m := m) (i := i) hl.1
    have hDb : ta_D q.1 q.2 m i * q.2 ≤ q.1 * 2 ^ (m * i) % q.2 * 2 ^ m := Nat.div_mul_le_self _ _
    have hsub : q.1 * 2 ^ (m * i) % q.2 * 2 ^ m - ta_D q.1 q.2 m i * q.2 = q.1 * 2 ^ (m * (i + 1)) % q.2 := by
      rw [ta_nx]
      have := Nat.div_add_mod (q.1 * 2 ^ (m * i) % q.2 * 2 ^ m) q.2
      rw [Nat.mul_comm] at this
      unfold ta_D
      omega
    have key : fX3_digitsTakenOut_b84 (fX3_digitsTakenOut_b37 N) (nI m) b (nI B) (nI s) (nI g) (lN (ta_A q.1 q.2 m g i)) (nI i) (lN (q.1 * 2 ^ (m * i) % q.2 * 2 ^ m)) (lN (ta_D q.1 q.2 m i)) w sz = if ta_O q.1 q.2 m s g d (i + 1) then some (lN (ta_A q.1 q.2 m g B), w, 0, 0) else some (-1, w, 0, 0) := by
      rw [ta_A] at ih
      rw [fX3_digitsTakenOut_b84, nI_l (show g < 2 ^ 31 by omega), nu_ite ((lg_cmp_eq _ _).trans (pk_lEQ (show ta_D q.1 q.2 m i < 2 ^ 63 by omega) (show g < 2 ^ 63 by omega)))]
      unfold fX3_digitsTakenOut_b104 fX3_answer
      by_cases c : ta_D q.1 q.2 m i = g
      · rw [if_pos c] at ih ⊢
        rw [if_neg (by decide), Option.bind_some, t1, Option.bind_some, nI_l (show q.2 < 2 ^ 31 by omega), lN_mul, lN_sub hDb, hsub, show nI i + 1 = nI (i + 1) from nI_1 i, nu_2L, show (1 : Int32).toInt64 = lN 1 from rfl, lN_add]
        exact ih
      · rw [if_neg c] at ih ⊢
        rw [if_pos rfl, Option.bind_some, t1, Option.bind_some, nI_l (show q.2 < 2 ^ 31 by omega), lN_mul, lN_sub hDb, hsub, show nI i + 1 = nI (i + 1) from nI_1 i, nu_2L, show (0 : Int32).toInt64 = lN 0 from rfl, lN_add]
        exact ih
    rw [fX3_digitsTakenOut_b37, if_neg (nI_ge (by omega) (by omega)), t1, Option.bind_some, nu_shl64 (by omega) (by omega), nI_l (show q.2 < 2 ^ 31 by omega), st_over (by omega) hl.1 (by omega), Option.bind_some, show q.1 * 2 ^ (m * i) % q.2 * 2 ^ m / q.2 = ta_D q.1 q.2 m i from rfl, key, nI_l (show s < 2 ^ 31 by omega), nI_l (show g < 2 ^ 31 by omega), nu_ite ((lg_cmp_eq _ _).trans (pk_lEQ (show ta_D q.1 q.2 m i < 2 ^ 63 by omega) (show s < 2 ^ 63 by omega))), nu_ite ((lg_cmp_eq _ _).trans (pk_lEQ (show ta_D q.1 q.2 m i < 2 ^ 63 by omega) (show g < 2 ^ 63 by omega))), ta_O]
    by_cases c1 : ta_D q.1 q.2 m i = s
    · rw [if_pos c1, decide_eq_true c1, Bool.true_or, Bool.true_and]
    · rw [if_neg c1, decide_eq_false c1, Bool.false_or]
      by_cases c2 : ta_D q.1 q.2 m i = g
      · rw [if_pos c2, decide_eq_true c2, Bool.true_and]
      · rw [if_neg c2, decide_eq_false c2, Bool.false_and, if_neg (by decide)]
theorem mt_takeC (hm : ws_M z w n A S km_l km_s km_g) {j i m L : Nat} (hj : j < n) (hL : nt_L (A j).2 = L) (hodd : (A j).2 % 2 = 1) (hm8 : m ≤ 8) (hi : i ≤ 20) (x3 x6 : Int32) (x7 : Int64) (r93 : Nat → Int32 → Int32 → Int32 → Int32 → Int32 → Int64 → Int32 → Int32 → mg_H → Option (Int32 × mg_H)) : ∀ d N t, t + d = m → d < N → fX4_take_b111 r93 N (z + 4) (nI j) x3 (nI m) (nI L) x6 x7 (nI i) (lN ((A j).1 * 2 ^ (m * i) % (A j).2 * 2 ^ t / (A j).2)) (nI t) w = fX4_take_b150 r93 (z + 4) (nI j) x3 (nI m) (nI L) x6 x7 (nI i) (lN (ta_D (A j).1 (A j).2 m i)) w := by
  obtain ⟨_, hz4⟩ := mt_z hm
  have ho := mt_ok hm hj
  have hl := nt_Glt ho.2.2
  obtain ⟨l1, l2, -, l4, -⟩ := nt_Lspec ho.2.2
  rw [nt_Oodd hl.1 (by omega) hodd] at l4
  rw [hL] at l1 l2 l4
  have him : i * m ≤ 160 := Nat.mul_le_mul hi hm8
  intro d
  induction d with
  | zero =>
    intro N t q1 q2
    obtain ⟨N, rfl⟩ : ∃ m, N = m + 1 := ⟨N - 1, by omega⟩
    obtain rfl : t = m := by omega
    rw [fX4_take_b111, if_pos (nI_le (by omega) (by omega))]
    rfl
  | succ d ih =>
    intro N t q1 q2
    obtain ⟨N, rfl⟩ : ∃ m, N = m + 1 := ⟨N - 1, by omega⟩
    have ih := ih N (t + 1) (by omega) (by omega)
    have hlt : (i * m + t) % L < L := Nat.mod_lt _ (by omega)
    have hper : (A j).1 * 2 ^ ((i * m + t) % L) % (A j).2 = (A j).1 * 2 ^ (m * i) % (A j).2 * 2 ^ t % (A j).2 := by
      rw [ta_per l4, Nat.mul_comm i, Nat.pow_add, ← Nat.mul_assoc, nu_mmod]
    rw [ta_step hl.1] at ih
    rw [fX4_take_b111, if_neg (nI_ge (by omega) (by omega)), if_neg (nI_ne0 (by omega) (by omega)), wr_rc hz4, pk_mul, nI_add, pk_rem (by omega) (by omega) (by omega), mt_digitOf hm hj (by omega), Option.bind_some, hper, nu_2L, show nI t + 1 = nI (t + 1) from nI_1 t]
    by_cases c : (A j).2 ≤ 2 * ((A j).1 * 2 ^ (m * i) % (A j).2 * 2 ^ t % (A j).2)
    · rw [if_pos c] at ih ⊢
      rw [show (1 : Int32).toInt64 = lN 1 from rfl, lN_add]
      exact ih
    · rw [if_neg c] at ih ⊢
      rw [show (0 : Int32).toInt64 = lN 0 from rfl, lN_add]
      exact ih
theorem mt_takeL (hm : ws_M z w n A S km_l km_s km_g) {j k B L : Nat} (hj : j < n) (hk : k < 236) (hL : nt_L (A j).2 = L) (hodd : (A j).2 % 2 = 1) (hB : B ≤ 20) : ∀ d N i, i + d = B → d < N → fX4_take_b93 N (z + 4) (nI j) (nI k) (nI (tl k)) (nI L) (nI B) (lN (ta_A (A j).1 (A j).2 (tl k) (tg k) i)) 1 (nI i) w = if ta_O (A j).1 (A j).2 (tl k) (ts k) (tg k) d i then fX4_take_b213 (z + 4) (nI B) (lN (ta_A (A j).1 (A j).2 (tl k) (tg k) B)) 1 w else some (-4, w) := by
  obtain ⟨g3, g4, g5, g6, l7, l8, l9⟩ := mt_tab hm
  have hl := nt_Glt (mt_ok hm hj).2.2
  have htf := tf hk
  have hw := tw_bnd hk
  intro d
  induction d with
  | zero =>
    intro N i q1 q2
    obtain ⟨N, rfl⟩ : ∃ m, N = m + 1 := ⟨N - 1, by omega⟩
    obtain rfl : i = B := by omega
    rw [fX4_take_b93, if_pos (nI_le (by omega) (by omega)), ta_O, if_pos rfl]
  | succ d ih =>
    intro N i q1 q2
    obtain ⟨N, rfl⟩ : ∃ m, N = m + 1 := ⟨N - 1, by omega⟩
    have ih := ih N (i + 1) (by omega) (by omega)
    have hD := ta_Dlt (u := (A j).1) (m := tl k) (i := i) hl.1
    have hM : 2 ^ tl k ≤ 2 ^ 8 := Nat.pow_le_pow_right (by omega) htf.2.1
    have hc0 := mt_takeC hm hj hL hodd htf.2.1 (show i ≤ 20 by omega) (nI k) (nI B) (lN (ta_A (A j).1 (A j).2 (tl k) (tg k) i)) (fX4_take_b93 N) (tl k) mg_N 0 (by omega) (by unfold mg_N; omega)
    rw [show nI 0 = (0 : Int32) from nI_0, Nat.pow_zero, Nat.mul_one, Nat.div_eq_of_lt (Nat.mod_lt _ hl.1), show lN 0 = (0 : Int64) from rfl] at hc0
    have hf : ∀ acc, fX4_take_b93 N (z + 4) (nI j) (nI k) (nI (tl k)) (nI L) (nI B) acc 0 (nI (i + 1)) w = some (-4, w) := by
      intro acc
      obtain ⟨N, rfl⟩ : ∃ m, N = m + 1 := ⟨N - 1, by omega⟩
      rw [fX4_take_b93, fX4_take_b213, if_pos (c := (0 : Int32) = 0) rfl, if_pos (c := (0 : Int32) = 0) rfl, ite_self]
    rw [ta_A] at ih
    rw [fX4_take_b93, if_neg (nI_ge (by omega) (by omega)), if_neg (by decide), hc0, fX4_take_b150, g5, l8 k hk, Option.bind_some, g6, l9 k hk, Option.bind_some, nu_ite ((lg_cmp_eq _ _).trans (pk_lEQ (show ta_D (A j).1 (A j).2 (tl k) i < 2 ^ 63 by omega) (show ts k < 2 ^ 63 by omega))), nu_ite ((lg_cmp_eq _ _).trans (pk_lEQ (show ta_D (A j).1 (A j).2 (tl k) i < 2 ^ 63 by omega) (show tg k < 2 ^ 63 by omega))), ta_O]
    have key : fX4_take_b174 (fX4_take_b93 N) (z + 4) (nI j) (nI k) (nI (tl k)) (nI L) (nI B) (lN (ta_A (A j).1 (A j).2 (tl k) (tg k) i)) (nI i) (lN (ta_D (A j).1 (A j).2 (tl k) i)) w = if ta_O (A j).1 (A j).2 (tl k) (ts k) (tg k) d (i + 1) then fX4_take_b213 (z + 4) (nI B) (lN (ta_A (A j).1 (A j).2 (tl k) (tg k) B)) 1 w else some (-4, w) := by
      rw [fX4_take_b174, fX4_take_b179, g6, l9 k hk, Option.bind_some, nu_ite ((lg_cmp_eq _ _).trans (pk_lEQ (show ta_D (A j).1 (A j).2 (tl k) i < 2 ^ 63 by omega) (show tg k < 2 ^ 63 by omega)))]
      unfold fX4_take_b204
      by_cases c : ta_D (A j).1 (A j).2 (tl k) i = tg k
      · rw [if_pos c] at ih ⊢
        rw [nu_2L, show (1 : Int64) = lN 1 from rfl, lN_add, show nI i + 1 = nI (i + 1) from nI_1 i]
        exact ih
      · rw [if_neg c] at ih ⊢
        rw [nu_2L, show (0 : Int64) = lN 0 from rfl, lN_add, show nI i + 1 = nI (i + 1) from nI_1 i]
        exact ih
    rw [key]
    by_cases c1 : ta_D (A j).1 (A j).2 (tl k) i = ts k
    · rw [if_pos c1, decide_eq_true c1, Bool.true_or, Bool.true_and]
    · rw [if_neg c1, decide_eq_false c1, Bool.false_or]
      by_cases c2 : ta_D (A j).1 (A j).2 (tl k) i = tg k
      · rw [if_pos c2, decide_eq_true c2, Bool.true_and]
      · rw [if_neg c2, decide_eq_false c2, Bool.false_and, if_neg (by decide), fX4_take_b179, g6, l9 k hk, Option.bind_some]
        unfold fX4_take_b204
        rw [show nI i + 1 = nI (i + 1) from nI_1 i, hf, hf, ite_self]
end TA
