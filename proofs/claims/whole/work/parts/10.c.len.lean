theorem st_ones : ∀ n, n < 31 → fX3_ones (nI n) = some (nI (2 ^ n - 1)) := by decide
theorem st_whole : ∀ n, n < 31 → fX4_whole (nI n) = some (lN (2 ^ n - 1)) := by decide
/-- the model's LENGTH -/
theorem st_lenA : ∀ (m n b : Nat), 0 < b → b < 2 ^ m → m < n → m ≤ 30 → fX4_lengthOf_b2 n (lN b) = fX4_lengthOf_b21 (lN (b / 2 ^ tzF m b)) := by
  intro m
  induction m with
  | zero => intro n b h1 h2; simp at h2; omega
  | succ m ih =>
    intro n b h1 h2 h3 h4
    obtain ⟨n, rfl⟩ : ∃ z, n = z + 1 := ⟨n - 1, by omega⟩
    have hp : 2 ^ (m + 1) ≤ 2 ^ 30 := Nat.pow_le_pow_right (by omega) h4
    rw [fX4_lengthOf_b2, tzF]
    simp only [lg_cmp_eq, if_neg (show ¬ (2 : Int64) = 0 by decide)]
    rw [show lN b - lN b / 2 * 2 = lN (b % 2) from nu_rem (b := 2) (by omega) (by omega) (by omega)]
    by_cases c : b % 2 = 0
    · rw [c, if_pos (by rfl), if_pos rfl, show lN b / 2 = lN (b / 2) from pk_lDiv (b := 2) (by omega) (by omega) (by omega), ih n (b / 2) (by omega) (by rw [Nat.pow_succ] at h2; omega) (by omega) (by omega), Nat.div_div_eq_div_mul, Nat.pow_succ, Nat.mul_comm 2]
    · rw [if_neg (nu_lz (by omega) (by omega)), if_neg c, Nat.pow_zero, Nat.div_one]
theorem st_lenB {o N : Nat} (h0 : 0 < o) (ho : o < 2 ^ 30) (hN : 2 ^ N % o = 1 % o) (hm : ∀ j, 1 ≤ j → j < N → ¬ 2 ^ j % o = 1 % o) : ∀ (d n k : Nat), 1 ≤ k → k + d = N → d < n → fX4_lengthOf_b31 n (lN o) (nI k) (lN (2 ^ k % o)) = some (nI N) := by
  intro d
  induction d with
  | zero =>
    intro n k h1 h2 h3
    obtain ⟨n, rfl⟩ : ∃ z, n = z + 1 := ⟨n - 1, by omega⟩
    have e : k = N := by omega
    subst e
    rw [fX4_lengthOf_b31]
    simp only [lg_cmp_eq, if_neg (nu_lz h0 (show o < 2 ^ 63 by omega))]
    rw [show (1 : Int64) - 1 / lN o * lN o = lN (1 % o) from nu_rem (a := 1) (by omega) h0 (by omega), if_pos (by rw [hN])]
  | succ d ih =>
    intro n k h1 h2 h3
    obtain ⟨n, rfl⟩ : ∃ z, n = z + 1 := ⟨n - 1, by omega⟩
    have hk := Nat.mod_lt (2 ^ k) h0
    have hk1 := Nat.mod_lt 1 h0
    rw [fX4_lengthOf_b31]
    simp only [lg_cmp_eq, if_neg (nu_lz h0 (show o < 2 ^ 63 by omega))]
    rw [show (1 : Int64) - 1 / lN o * lN o = lN (1 % o) from nu_rem (a := 1) (by omega) h0 (by omega), if_neg (fun q => hm k h1 (by omega) ((pk_lEQ (by omega) (by omega)).mp q)), nu_2L, nu_rem (by omega) h0 (by omega), show nI k + 1 = nI (k + 1) from nI_1 k, show 2 * (2 ^ k % o) % o = 2 ^ (k + 1) % o by rw [Nat.mul_mod_mod, Nat.pow_succ, Nat.mul_comm]]
    exact ih n (k + 1) (by omega) (by omega) (by omega)
theorem nt_Opos {b : Nat} (h0 : 0 < b) (hb : b < 2 ^ 22) : 0 < nt_O b ∧ nt_O b ≤ b := by
  have := (nt_TO h0 hb).2.1
  exact ⟨by omega, Nat.div_le_self _ _⟩
theorem st_len {b : Nat} (h : nt_G b) : fX4_lengthOf (lN b) = some (nI (nt_L b)) := by
  have hl := nt_Glt h
  have ho := nt_Opos hl.1 (show b < 2 ^ 22 by omega)
  obtain ⟨a1, a2, a3, a4, a5⟩ := nt_Lspec h
  unfold fX4_lengthOf
  rw [st_lenA 22 mg_N b hl.1 (by omega) (by unfold mg_N; omega) (by omega)]
  show fX4_lengthOf_b21 (lN (nt_O b)) = _
  unfold fX4_lengthOf_b21
  rw [if_neg (nu_lz ho.1 (by omega)), show (2 : Int64) - 2 / lN (nt_O b) * lN (nt_O b) = lN (2 ^ 1 % nt_O b) from nu_rem (a := 2) (by omega) ho.1 (by omega)]
  exact st_lenB ho.1 (by omega) a4 a5 (nt_L b - 1) mg_N 1 (by omega) (by omega) (by unfold mg_N; omega)
/-- the ring of an ANGLE in lowest terms -/
theorem nt_ring {a b k : Nat} (hg : Nat.gcd a b = 1) (h0 : 0 < b) (hb : b < 2 ^ 22) : a * 2 ^ nt_T b * 2 ^ k % b = a * 2 ^ nt_T b % b ↔ 2 ^ k % nt_O b = 1 % nt_O b := by
  obtain ⟨h1, h2, h3⟩ := nt_TO h0 hb
  have hp : 0 < 2 ^ nt_T b := Nat.two_pow_pos _
  have hk : 1 ≤ 2 ^ k := Nat.two_pow_pos _
  have hc : Nat.Coprime (nt_O b) a := by
    have : Nat.Coprime a b := hg
    rw [h1] at this
    exact (Nat.Coprime.coprime_mul_left_right this).symm
  rw [nt_dvd (Nat.le_mul_of_pos_right _ (by omega)), nt_dvd hk]
  have e : a * 2 ^ nt_T b * 2 ^ k - a * 2 ^ nt_T b = 2 ^ nt_T b * (a * (2 ^ k - 1)) := by
    rw [Nat.mul_sub, Nat.mul_sub, Nat.mul_one, Nat.mul_comm (2 ^ nt_T b) (a * 2 ^ k), Nat.mul_comm (2 ^ nt_T b) a, Nat.mul_right_comm]
  rw [e]
  generalize nt_O b = o at *
  generalize 2 ^ nt_T b = t at *
  rw [h1]
  constructor
  · intro q
    exact hc.dvd_of_dvd_mul_left (Nat.dvd_of_mul_dvd_mul_left hp q)
  · intro q
    exact Nat.mul_dvd_mul_left t (Nat.dvd_trans q (Nat.dvd_mul_left _ _))
/-- the class's LENGTH -/
theorem st_ringC {s b N : Nat} (hs : s < b) (hb : b < 2 ^ 30) (hN : s * 2 ^ N % b = s) (hm : ∀ j, 1 ≤ j → j < N → ¬ s * 2 ^ j % b = s) (hNb : N ≤ b) : ∀ (d n k : Nat), 1 ≤ k → k + d = N → d < n → fX2_lengthOfRing_b8 n (nI s) (nI b) (nI (s * 2 ^ k % b)) (nI k) = some (nI N) := by
  intro d
  induction d with
  | zero =>
    intro n k h1 h2 h3
    obtain ⟨n, rfl⟩ : ∃ z, n = z + 1 := ⟨n - 1, by omega⟩
    have e : k = N := by omega
    subst e
    rw [fX2_lengthOfRing_b8]
    by_cases c : b ≤ k
    · rw [if_pos (nI_le c (by omega))]
    · rw [if_neg (nI_ge (by omega) (by omega)), if_pos (by rw [hN])]
  | succ d ih =>
    intro n k h1 h2 h3
    obtain ⟨n, rfl⟩ : ∃ z, n = z + 1 := ⟨n - 1, by omega⟩
    have hk := Nat.mod_lt (s * 2 ^ k) (show 0 < b by omega)
    rw [fX2_lengthOfRing_b8, if_neg (nI_ge (by omega) (by omega)), if_neg (fun q => hm k h1 (by omega) ((nI_eq (by omega) (by omega)).mp q)), st_twice hk hb, Option.bind_some, show nI k + 1 = nI (k + 1) from nI_1 k, show 2 * (s * 2 ^ k % b) % b = s * 2 ^ (k + 1) % b by rw [Nat.mul_mod_mod, Nat.pow_succ, Nat.mul_comm 2, Nat.mul_assoc]]
    exact ih n (k + 1) (by omega) (by omega) (by omega)
theorem st_ring {s b N : Nat} (hs : s < b) (hb : b < 2 ^ 30) (h1 : 1 ≤ N) (hN : s * 2 ^ N % b = s) (hm : ∀ j, 1 ≤ j → j < N → ¬ s * 2 ^ j % b = s) (hNb : N ≤ b) : fX2_lengthOfRing (nI s) (nI b) = some (nI N) := by
  unfold fX2_lengthOfRing
  rw [st_twice hs hb, Option.bind_some]
  have := st_ringC hs hb hN hm hNb (N - 1) mg_N 1 (by omega) (by omega) (by unfold mg_N; omega)
  rw [Nat.pow_one, Nat.mul_comm] at this
  exact this
theorem st_ringT {a b : Nat} (hg : Nat.gcd a b = 1) (h : nt_G b) : fX2_lengthOfRing (nI (a * 2 ^ nt_T b % b)) (nI b) = some (nI (nt_L b)) := by
  have hl := nt_Glt h
  obtain ⟨a1, a2, a3, a4, a5⟩ := nt_Lspec h
  refine st_ring (Nat.mod_lt _ hl.1) (by omega) a1 ?_ ?_ a3
  · rw [Nat.mod_mul_mod]
    exact (nt_ring hg hl.1 (by omega)).mpr a4
  · intro j h1 h2 q
    rw [Nat.mod_mul_mod] at q
    exact a5 j h1 h2 ((nt_ring hg hl.1 (by omega)).mp q)
/-- DOUBLED so often -/
theorem st_afterM {a b m : Nat} (hb : 0 < b) (hb2 : b < 2 ^ 30) (hm : m < 2 ^ 31) : ∀ (d n i : Nat), i + d = m → d < n → fX4_after_b6 n (lN b) (nI m) (lN (a * 2 ^ i % b)) (nI i) = some (lN (a * 2 ^ m % b)) := by
  intro d
  induction d with
  | zero =>
    intro n i h1 h2
    obtain ⟨n, rfl⟩ : ∃ z, n = z + 1 := ⟨n - 1, by omega⟩
    have e : i = m := by omega
    subst e
    rw [fX4_after_b6, if_pos (nI_le (Nat.le_refl _) hm)]
  | succ d ih =>
    intro n i h1 h2
    obtain ⟨n, rfl⟩ : ∃ z, n = z + 1 := ⟨n - 1, by omega⟩
    have hk := Nat.mod_lt (a * 2 ^ i) hb
    rw [fX4_after_b6, if_neg (nI_ge (by omega) (by omega)), if_neg (nu_lz hb (by omega)), nu_2L, nu_rem (by omega) hb (by omega), show nI i + 1 = nI (i + 1) from nI_1 i, show 2 * (a * 2 ^ i % b) % b = a * 2 ^ (i + 1) % b by rw [Nat.mul_mod_mod, Nat.pow_succ, Nat.mul_comm 2, Nat.mul_assoc]]
    exact ih n (i + 1) (by omega) (by omega)
theorem st_after {a b m : Nat} (ha : a < b) (hb2 : b < 2 ^ 30) (hm : m < 2 ^ 31) : fX4_after (lN a) (lN b) (nI m) = some (lN (a * 2 ^ m % b)) := by
  have := st_afterM (a := a) (show 0 < b by omega) hb2 hm m mg_N 0 (by omega) (by unfold mg_N; omega)
  rw [Nat.pow_zero, Nat.mul_one, Nat.mod_eq_of_lt ha] at this
  exact this
/-- a LETTER: 2 a d beside c b and (c + d) b -/
def nt_S (a b c d : Nat) : Nat := if 2 * a * d = c * b ∨ 2 * a * d = (c + d) * b then 2 else if c * b < 2 * a * d ∧ 2 * a * d < (c + d) * b then 1 else 0
theorem nt_Sle (a b c d : Nat) : nt_S a b c d ≤ 2 := by
  unfold nt_S
  split
  · omega
  · split <;> omega
theorem nu_mul {a b : Nat} (ha : a < 2 ^ 22) (hb : b < 2 ^ 22) : a * b < 2 ^ 44 := by
  have := Nat.mul_lt_mul'' ha hb
  omega
theorem nu_bnd {a b c d : Nat} (ha : a < 2 ^ 20) (hb : b < 2 ^ 20) (hc : c < 2 ^ 20) (hd : d < 2 ^ 20) : 2 * a * d < 2 ^ 44 ∧ c * b < 2 ^ 44 ∧ (c + d) * b < 2 ^ 44 := ⟨nu_mul (by omega) (by omega), nu_mul (by omega) (by omega), nu_mul (by omega) (by omega)⟩
theorem st_side {a b c d : Nat} (ha : a < 2 ^ 20) (hb : b < 2 ^ 20) (hc : c < 2 ^ 20) (hd : d < 2 ^ 20) : fX4_side (lN a) (lN b) (lN c) (lN d) = some (nI (nt_S a b c d)) := by
  obtain ⟨h1, h2, h3⟩ := nu_bnd ha hb hc hd
  unfold fX4_side nt_S
  simp only [nu_2L, lN_mul, lN_add, lg_cmp_eq, lg_cmp_le, lg_cmp_ge]
  generalize 2 * a * d = x at *
  generalize c * b = y at *
  generalize (c + d) * b = z at *
  simp only [pk_lEQ (show x < 2 ^ 63 by omega) (show y < 2 ^ 63 by omega), pk_lEQ (show x < 2 ^ 63 by omega) (show z < 2 ^ 63 by omega), pk_lLE (show x < 2 ^ 63 by omega) (show y < 2 ^ 63 by omega), pk_lLE (show z < 2 ^ 63 by omega) (show x < 2 ^ 63 by omega)]
  by_cases c1 : x = y
  · rw [if_pos c1, if_pos (Or.inl c1)]; rfl
  · rw [if_neg c1]
    by_cases c2 : x = z
    · rw [if_pos c2, if_pos (Or.inr c2)]; rfl
    · rw [if_neg c2, if_neg (show ¬ (x = y ∨ x = z) by omega)]
      by_cases c3 : x ≤ y
      · rw [if_pos c3, if_neg (show ¬ (y < x ∧ x < z) by omega)]; rfl
      · rw [if_neg c3]
        by_cases c4 : z ≤ x
        · rw [if_pos c4, if_neg (show ¬ (y < x ∧ x < z) by omega)]; rfl
        · rw [if_neg c4, if_pos (show y < x ∧ x < z by omega)]; rfl
