/-! reading worlds -/
theorem wr_set (w : mg_H) (a : Nat) (e : mg_E) : mg_set w a e a = some e := by simp [mg_set]
theorem wr_ne {w : mg_H} {a b : Nat} {e : mg_E} (h : b ≠ a) : mg_set w a e b = w b := by simp [mg_set, h]
theorem wr_obj {w : mg_H} {ci a : Nat} {fs : List Value} (h : w a = some (.inl (ci, fs))) : mg_obj w ci a = some fs := by simp [mg_obj, h]
theorem wr_gI {w : mg_H} {ci a k : Nat} {fs : List Value} {v : Int32} (h : w a = some (.inl (ci, fs))) (hk : fs[k]? = some (.int v)) : mg_gI w ci a k = some v := by simp [mg_gI, wr_obj h, hk]
theorem wr_gQ {w : mg_H} {ci a k : Nat} {fs : List Value} {v : Option Nat} (h : w a = some (.inl (ci, fs))) (hk : fs[k]? = some (va_rf v)) : mg_gQ w ci a k = some v := by cases v <;> simp [mg_gQ, wr_obj h, hk, va_rf]
theorem wr_gN {ρ : Type} {w : mg_H} {ci a k v : Nat} {fs : List Value} {K : Nat → Option ρ} (h : w a = some (.inl (ci, fs))) (hk : fs[k]? = some (.ref v)) : mg_gN w ci a k K = K v := by
  unfold mg_gN
  rw [wr_gQ (v := some v) h hk]
  rfl
theorem wr_rc {ρ : Type} {w : mg_H} {ci a : Nat} {fs : List Value} {F : Option ρ} (h : w a = some (.inl (ci, fs))) : mg_rc w ci a F = F := by simp [mg_rc, wr_obj h]
theorem wr_pI {w : mg_H} {ci a k : Nat} {fs : List Value} {v : Int32} (h : w a = some (.inl (ci, fs))) (hk : k < fs.length) : mg_pI w ci a k v = some (mg_set w a (.inl (ci, fs.set k (.int v)))) := by simp [mg_pI, wr_obj h, hk]
theorem wr_pQ {w : mg_H} {ci a k : Nat} {fs : List Value} {v : Option Nat} (h : w a = some (.inl (ci, fs))) (hk : k < fs.length) : mg_pQ w ci a k v = some (mg_set w a (.inl (ci, fs.set k (va_rf v)))) := by simp [mg_pQ, wr_obj h, hk]
theorem wr_ix {k n : Nat} (h : k < n) (hn : n < 2 ^ 31) : mg_ix (nI k) n = some k := by
  unfold mg_ix
  rw [if_neg (nI_pos (by omega)), nI_clamp (by omega), if_pos h]
theorem wr_ldI {w : mg_H} {kd a n k : Nat} {f : Nat → Int32} (h : w a = some (.inr (kd, n, .inl f))) (hk : k < n) (hn : n < 2 ^ 31) : mg_ldI w kd a (nI k) = some (f k) := by simp [mg_ldI, mg_arI, h, wr_ix hk hn]
theorem wr_ldL {w : mg_H} {a n k : Nat} {f : Nat → Int64} (h : w a = some (.inr (2, n, .inr (.inl f)))) (hk : k < n) (hn : n < 2 ^ 31) : mg_ldL w a (nI k) = some (f k) := by simp [mg_ldL, mg_arL, h, wr_ix hk hn]
theorem wr_ldQ {w : mg_H} {kd a n k : Nat} {f : Nat → Option Nat} (h : w a = some (.inr (kd, n, .inr (.inr (.inr (.inr f)))))) (hk : k < n) (hn : n < 2 ^ 31) : mg_ldQ w kd a (nI k) = some (f k) := by simp [mg_ldQ, mg_arQ, h, wr_ix hk hn]
theorem wr_stI {w : mg_H} {a n k : Nat} {f : Nat → Int32} {v : Int32} (h : w a = some (.inr (0, n, .inl f))) (hk : k < n) (hn : n < 2 ^ 31) : mg_stI w a (nI k) v = some (mg_set w a (.inr (0, n, .inl (upd f k v)))) := by simp [mg_stI, mg_arI, h, wr_ix hk hn]
theorem wr_stZ {w : mg_H} {a n k : Nat} {f : Nat → Int32} {v : Int32} (h : w a = some (.inr (1, n, .inl f))) (hk : k < n) (hn : n < 2 ^ 31) : mg_stZ w a (nI k) v = some (mg_set w a (.inr (1, n, .inl (upd f k (vp_nar .boolean v))))) := by simp [mg_stZ, mg_arI, h, wr_ix hk hn]
theorem wr_stL {w : mg_H} {a n k : Nat} {f : Nat → Int64} {v : Int64} (h : w a = some (.inr (2, n, .inr (.inl f)))) (hk : k < n) (hn : n < 2 ^ 31) : mg_stL w a (nI k) v = some (mg_set w a (.inr (2, n, .inr (.inl (vp_updL f k v))))) := by simp [mg_stL, mg_arL, h, wr_ix hk hn]
theorem wr_stQ {w : mg_H} {kd ci a n k v : Nat} {f : Nat → Option Nat} {fs : List Value} (h : w a = some (.inr (kd, n, .inr (.inr (.inr (.inr f)))))) (hv : w v = some (.inl (ci, fs))) (hk : k < n) (hn : n < 2 ^ 31) : mg_stQ w kd ci a (nI k) v = some (mg_set w a (.inr (kd, n, .inr (.inr (.inr (.inr (va_up f k (some v)))))))) := by simp [mg_stQ, mg_arQ, h, wr_ix hk hn, wr_obj hv]
theorem wr_len {w : mg_H} {a k : Nat} {x : vp_A} (h : w a = some (.inr (k, x))) (hk : k < 5) : mg_len w a = some (nI x.1) := by simp [mg_len, h, hk, nI]
/-! numbers -/
theorem nu_of (n : Nat) : (OfNat.ofNat n : Int32) = nI n := rfl
theorem nu_ofL (n : Nat) : (OfNat.ofNat n : Int64) = lN n := rfl
theorem nu_2 (u : Nat) : (2 : Int32) * nI u = nI (2 * u) := pk_mul 2 u
theorem nu_2L (u : Nat) : (2 : Int64) * lN u = lN (2 * u) := lN_mul 2 u
theorem nu_rem {a b : Nat} (ha : a < 2 ^ 63) (h0 : 0 < b) (hb : b < 2 ^ 63) : lN a - lN a / lN b * lN b = lN (a % b) := pk_lRem ha h0 hb
theorem nu_lz {b : Nat} (h0 : 0 < b) (hb : b < 2 ^ 63) : ¬ lN b = 0 := fun q => by
  have := (pk_lEQ (a := b) (b := 0) hb (by omega)).mp q
  omega
/-- DOUBLED -/
theorem st_twice {u b : Nat} (h : u < b) (hb : b < 2 ^ 30) : fX3_twice (nI u) (nI b) = some (nI (2 * u % b)) := by
  unfold fX3_twice
  rw [nu_2]
  by_cases c : 2 * u < b
  · rw [if_pos (nI_lt c (by omega)), Nat.mod_eq_of_lt c]
  · rw [if_neg (nI_nlt (by omega) (by omega)), pk_sub (by omega)]
    congr 2
    rw [Nat.mod_eq_sub_mod (by omega), Nat.mod_eq_of_lt (by omega)]
theorem st_over {a b : Nat} (ha : a < 2 ^ 63) (h0 : 0 < b) (hb : b < 2 ^ 63) : fX3_over (lN a) (lN b) = some (lN (a / b)) := by
  unfold fX3_over
  rw [if_neg (by rw [lg_cmp_le]; exact fun q => by have := (pk_lLE (a := b) (b := 0) hb (by omega)).mp q; omega), if_neg (nu_lz h0 hb), pk_lDiv ha h0 hb]
def nu_sg (a b : Nat) : Int32 := if a < b then -1 else if b < a then 1 else 0
theorem st_order {a b : Nat} (ha : a < 2 ^ 63) (hb : b < 2 ^ 63) : fX3_order (lN a) (lN b) = some (nu_sg a b) := by
  unfold fX3_order nu_sg
  simp only [lg_cmp_ge, lg_cmp_le, pk_lLE ha hb, pk_lLE hb ha]
  by_cases c : a < b
  · rw [if_neg (by omega), if_pos c]
  · rw [if_pos (by omega), if_neg c]
    by_cases d : b < a
    · rw [if_neg (by omega), if_pos d]
    · rw [if_pos (by omega), if_neg d]
theorem st_in (x a b : Int64) : fX4_in x a b = some (if a ≤ x ∧ x ≤ b then 1 else 0) := by
  unfold fX4_in
  simp only [lg_cmp_lt, lg_cmp_gt]
  by_cases c : x < a
  · rw [if_pos c, if_neg (fun q => by have := q.1; rw [Int64.le_iff_toInt_le] at this; rw [Int64.lt_iff_toInt_lt] at c; omega)]
  · rw [if_neg c]
    by_cases d : b < x
    · rw [if_pos d, if_neg (fun q => by have := q.2; rw [Int64.le_iff_toInt_le] at this; rw [Int64.lt_iff_toInt_lt] at d; omega)]
    · rw [if_neg d, if_pos ⟨by rw [Int64.le_iff_toInt_le]; rw [Int64.lt_iff_toInt_lt] at c; omega, by rw [Int64.le_iff_toInt_le]; rw [Int64.lt_iff_toInt_lt] at d; omega⟩]
/-- greatest shared parts -/
theorem st_gcdM : ∀ (n a b : Nat), b < n → a < 2 ^ 62 → b < 2 ^ 62 → fX4_divisor_b6 n (lN a) (lN b) = some (lN (Nat.gcd a b)) := by
  intro n
  induction n with
  | zero => intro a b h; omega
  | succ n ih =>
    intro a b h ha hb
    rw [fX4_divisor_b6]
    simp only [lg_cmp_eq]
    by_cases c : b = 0
    · subst c
      rw [if_pos (by rfl), Nat.gcd_zero_right]
    · rw [if_neg (nu_lz (by omega) (by omega)), if_neg (nu_lz (by omega) (by omega)), nu_rem (by omega) (by omega) (by omega)]
      have hm : a % b < b := Nat.mod_lt _ (by omega)
      rw [ih b (a % b) (by omega) hb (by omega), Nat.gcd_comm b, ← Nat.gcd_rec, Nat.gcd_comm]
theorem st_gcd {a b : Nat} (ha : a < 2 ^ 31) (hb : b < 2 ^ 31) : fX4_divisor (lN a) (lN b) = some (lN (Nat.gcd a b)) := st_gcdM mg_N a b (by unfold mg_N; omega) (by omega) (by omega)
/-- the class's own: each two steps halve the rest -/
theorem st_gcdC : ∀ (k n a b i : Nat), b < 2 ^ k → 2 * k + i ≤ 127 → 2 * k < n → a < 2 ^ 62 → b < 2 ^ 62 → fX3_greatestShared_b9 n (lN a) (lN b) (nI i) = some (lN (Nat.gcd a b)) := by
  intro k
  induction k with
  | zero =>
    intro n a b i hb hi hn ha hb2
    obtain ⟨n, rfl⟩ : ∃ m, n = m + 1 := ⟨n - 1, by omega⟩
    have : b = 0 := by simp at hb; exact hb
    subst this
    rw [fX3_greatestShared_b9]
    simp only [lg_cmp_eq]
    rw [if_neg (by exact nI_ge (a := i) (b := 128) (by omega) (by omega)), if_pos (by rfl), Nat.gcd_zero_right]
  | succ k ih =>
    intro n a b i hb hi hn ha hb2
    obtain ⟨n, rfl⟩ : ∃ m, n = m + 2 := ⟨n - 2, by omega⟩
    rw [fX3_greatestShared_b9]
    simp only [lg_cmp_eq]
    rw [if_neg (by exact nI_ge (a := i) (b := 128) (by omega) (by omega))]
    by_cases c : b = 0
    · subst c
      rw [if_pos (by rfl), Nat.gcd_zero_right]
    · rw [if_neg (nu_lz (by omega) (by omega)), if_neg (nu_lz (by omega) (by omega)), nu_rem (by omega) (by omega) (by omega)]
      have hm : a % b < b := Nat.mod_lt _ (by omega)
      have e1 : Nat.gcd a b = Nat.gcd b (a % b) := by rw [Nat.gcd_comm b, ← Nat.gcd_rec, Nat.gcd_comm]
      rw [e1]
      generalize a % b = r at hm
      rw [fX3_greatestShared_b9]
      simp only [lg_cmp_eq]
      rw [show nI i + 1 = nI (i + 1) from nI_1 i, if_neg (by exact nI_ge (a := i + 1) (b := 128) (by omega) (by omega))]
      by_cases d : r = 0
      · subst d
        rw [if_pos (by rfl), Nat.gcd_zero_right]
      · rw [if_neg (nu_lz (by omega) (by omega)), if_neg (nu_lz (by omega) (by omega)), nu_rem (by omega) (by omega) (by omega), show nI (i + 1) + 1 = nI (i + 2) from nI_1 (i + 1)]
        have hm2 : b % r < r := Nat.mod_lt _ (by omega)
        have hh : 2 * (b % r) < b := by
          have e : b % r + r * (b / r) = b := Nat.mod_add_div b r
          have : 1 ≤ b / r := Nat.div_pos (by omega) (by omega)
          have : r ≤ r * (b / r) := Nat.le_mul_of_pos_right _ (by omega)
          omega
        rw [ih n r (b % r) (i + 2) (by rw [Nat.pow_succ] at hb; omega) (by omega) (by omega) (by omega) (by omega)]
        congr 2
        rw [Nat.gcd_comm r, ← Nat.gcd_rec, Nat.gcd_comm]
theorem st_shared {a b : Nat} (ha : a < 2 ^ 31) (hb : b < 2 ^ 31) : fX3_greatestShared (lN a) (lN b) = some (lN (Nat.gcd a b)) := st_gcdC 31 mg_N a b 0 hb (by omega) (by unfold mg_N; omega) (by omega) (by omega)
