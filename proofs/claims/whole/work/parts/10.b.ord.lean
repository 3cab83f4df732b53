/-! TAIL and LENGTH: twos in the lower part, the order of 2 by its odd part -/
theorem nt_dvd {b x y : Nat} (h : y ≤ x) : x % b = y % b ↔ b ∣ x - y := by
  constructor
  · intro q
    exact Nat.dvd_of_mod_eq_zero (Nat.sub_mod_eq_zero_of_mod_eq q)
  · intro ⟨k, hk⟩
    have e : x = y + b * k := by omega
    rw [e, Nat.add_mul_mod_self_left]
def tzF : Nat → Nat → Nat
  | 0, _ => 0
  | n + 1, b => if b % 2 = 0 then tzF n (b / 2) + 1 else 0
def nt_T (b : Nat) : Nat := tzF 22 b
theorem tz_spec : ∀ (n b : Nat), 0 < b → b < 2 ^ n → (∃ o, b = 2 ^ tzF n b * o ∧ o % 2 = 1) ∧ tzF n b < n := by
  intro n
  induction n with
  | zero => intro b h1 h2; simp at h2; omega
  | succ n ih =>
    intro b h1 h2
    rw [tzF]
    by_cases c : b % 2 = 0
    · rw [if_pos c]
      obtain ⟨⟨o, h3, h4⟩, h5⟩ := ih (b / 2) (by omega) (by rw [Nat.pow_succ] at h2; omega)
      refine ⟨⟨o, ?_, h4⟩, by omega⟩
      rw [Nat.pow_succ]
      have : b = 2 * (b / 2) := by omega
      rw [Nat.mul_right_comm, ← h3]
      omega
    · rw [if_neg c]
      exact ⟨⟨b, by simp, by omega⟩, by omega⟩
def nt_O (b : Nat) : Nat := b / 2 ^ nt_T b
theorem nt_TO {b : Nat} (h0 : 0 < b) (hb : b < 2 ^ 22) : b = 2 ^ nt_T b * nt_O b ∧ nt_O b % 2 = 1 ∧ nt_T b < 22 := by
  obtain ⟨⟨o, h1, h2⟩, h3⟩ := tz_spec 22 b h0 hb
  have e : nt_O b = o := by
    unfold nt_O nt_T
    have hp : 0 < 2 ^ tzF 22 b := Nat.two_pow_pos _
    generalize tzF 22 b = t at *
    rw [h1, Nat.mul_div_cancel_left _ hp]
  rw [e]
  exact ⟨h1, h2, h3⟩
theorem nt_Tlt {b t : Nat} (h0 : 0 < b) (hb : b < 2 ^ 22) (ht : t < nt_T b) : b / 2 ^ t % 2 = 0 := by
  obtain ⟨h1, -, -⟩ := nt_TO h0 hb
  obtain ⟨d, hd⟩ : ∃ d, nt_T b = t + (d + 1) := ⟨nt_T b - t - 1, by omega⟩
  generalize nt_O b = o at h1
  rw [hd, Nat.pow_add, Nat.mul_assoc] at h1
  rw [h1, Nat.mul_div_cancel_left _ (Nat.two_pow_pos _), Nat.pow_succ, Nat.mul_right_comm, Nat.mul_mod_left]
theorem nt_Tat {b : Nat} (h0 : 0 < b) (hb : b < 2 ^ 22) : b / 2 ^ nt_T b % 2 = 1 := (nt_TO h0 hb).2.1
theorem nt_Todd {b : Nat} (h0 : 0 < b) (hb : b < 2 ^ 22) : nt_T b = 0 ↔ b % 2 = 1 := by
  constructor
  · intro q
    have := nt_Tat h0 hb
    rw [q] at this
    simpa using this
  · intro q
    rcases Nat.eq_zero_or_pos (nt_T b) with h | h
    · exact h
    · have := nt_Tlt h0 hb h
      simp at this
      omega
/-- the model's TAIL -/
theorem st_tailM : ∀ (m n b k : Nat), 0 < b → b < 2 ^ m → m < n → m ≤ 30 → fX4_tailOf_b4 n (nI k) (lN b) = some (nI (k + tzF m b)) := by
  intro m
  induction m with
  | zero => intro n b k h1 h2; simp at h2; omega
  | succ m ih =>
    intro n b k h1 h2 h3 h4
    obtain ⟨n, rfl⟩ : ∃ z, n = z + 1 := ⟨n - 1, by omega⟩
    have hp : 2 ^ (m + 1) ≤ 2 ^ 30 := Nat.pow_le_pow_right (by omega) h4
    rw [fX4_tailOf_b4, tzF]
    simp only [lg_cmp_eq, if_neg (show ¬ (2 : Int64) = 0 by decide)]
    rw [show lN b - lN b / 2 * 2 = lN (b % 2) from nu_rem (b := 2) (by omega) (by omega) (by omega)]
    by_cases c : b % 2 = 0
    · rw [c, if_pos (by rfl), if_pos rfl, show lN b / 2 = lN (b / 2) from pk_lDiv (b := 2) (by omega) (by omega) (by omega), show nI k + 1 = nI (k + 1) from nI_1 k, ih n (b / 2) (k + 1) (by omega) (by rw [Nat.pow_succ] at h2; omega) (by omega) (by omega)]
      congr 2
      omega
    · rw [if_neg (nu_lz (by omega) (by omega)), if_neg c, Nat.add_zero]
theorem st_tail {b : Nat} (h0 : 0 < b) (hb : b < 2 ^ 22) : fX4_tailOf (lN b) = some (nI (nt_T b)) := by
  have := st_tailM 22 mg_N b 0 h0 hb (by unfold mg_N; omega) (by omega)
  rw [Nat.zero_add] at this
  exact this
theorem nu_and31 : ∀ n, n < 32 → ((nI n &&& 31).toBitVec.smod 32).toNat = n := by decide
theorem nu_shr {b t : Nat} (hb : b < 2 ^ 31) (ht : t < 31) : nI b >>> (nI t &&& 31) = nI (b / 2 ^ t) := pk_shrN hb _ t (nu_and31 t (by omega))
theorem nu_and1 (n : Nat) (h : n < 2 ^ 32) : nI n &&& 1 = nI (n % 2) := pk_andN h 1 rfl
/-- the class's TAIL -/
theorem st_twosC {b : Nat} (h0 : 0 < b) (hb : b < 2 ^ 22) : ∀ (d n t : Nat), t + d = nt_T b → d < n → fX2_twosIn_b2 n (nI b) (nI t) = some (nI (nt_T b)) := by
  have hT := (nt_TO h0 hb).2.2
  intro d
  induction d with
  | zero =>
    intro n t h1 h2
    obtain ⟨n, rfl⟩ : ∃ z, n = z + 1 := ⟨n - 1, by omega⟩
    have e : t = nt_T b := by omega
    subst e
    rw [fX2_twosIn_b2, if_neg (by exact nI_ge (b := 30) (by omega) (by omega)), nu_shr (by omega) (by omega), nu_and1 _ (Nat.lt_of_le_of_lt (Nat.div_le_self _ _) (by omega)), nt_Tat h0 hb, if_neg (by decide)]
  | succ d ih =>
    intro n t h1 h2
    obtain ⟨n, rfl⟩ : ∃ z, n = z + 1 := ⟨n - 1, by omega⟩
    rw [fX2_twosIn_b2, if_neg (by exact nI_ge (b := 30) (by omega) (by omega)), nu_shr (by omega) (by omega), nu_and1 _ (Nat.lt_of_le_of_lt (Nat.div_le_self _ _) (by omega)), nt_Tlt h0 hb (by omega), if_pos (by decide), show nI t + 1 = nI (t + 1) from nI_1 t]
    exact ih n (t + 1) (by omega) (by omega)
theorem st_twos {b : Nat} (h0 : 0 < b) (hb : b < 2 ^ 22) : fX2_twosIn (nI b) = some (nI (nt_T b)) := by
  have hT := (nt_TO h0 hb).2.2
  exact st_twosC h0 hb (nt_T b) mg_N 0 (by omega) (by unfold mg_N; omega)
/-- the least k from k on with 2 to the k leaving 1 by o -/
def ordF : Nat → Nat → Nat → Nat → Nat
  | 0, _, _, k => k
  | n + 1, o, v, k => if v = 1 % o then k else ordF n o (2 * v % o) (k + 1)
theorem ord_spec : ∀ (n o k : Nat), (∃ j, k ≤ j ∧ j < k + n ∧ 2 ^ j % o = 1 % o) → k ≤ ordF n o (2 ^ k % o) k ∧ 2 ^ ordF n o (2 ^ k % o) k % o = 1 % o ∧ ∀ j, k ≤ j → j < ordF n o (2 ^ k % o) k → ¬ 2 ^ j % o = 1 % o := by
  intro n
  induction n with
  | zero => intro o k ⟨j, h1, h2, _⟩; omega
  | succ n ih =>
    intro o k ⟨j, h1, h2, h3⟩
    rw [ordF]
    by_cases c : 2 ^ k % o = 1 % o
    · rw [if_pos c]
      exact ⟨Nat.le_refl _, c, fun j h4 h5 => by omega⟩
    · rw [if_neg c, show 2 * (2 ^ k % o) % o = 2 ^ (k + 1) % o by rw [Nat.mul_mod_mod, Nat.pow_succ, Nat.mul_comm]]
      have hj : j ≠ k := fun q => c (by rw [← q]; exact h3)
      obtain ⟨g1, g2, g3⟩ := ih o (k + 1) ⟨j, by omega, by omega, h3⟩
      refine ⟨by omega, g2, fun i h4 h5 => ?_⟩
      by_cases d : i = k
      · subst d; exact c
      · exact g3 i (by omega) h5
def nt_ord (o : Nat) : Nat := ordF 600 o (2 % o) 1
def nt_L (b : Nat) : Nat := nt_ord (nt_O b)
/-- the lower parts that come up -/
def nt_G (b : Nat) : Prop := 0 < b ∧ (b ≤ 511 ∨ ∃ n, 1 ≤ n ∧ n ≤ 20 ∧ b ∣ 2 ^ n - 1)
theorem nt_small : ∀ b, b < 512 → 0 < b → 1 ≤ nt_L b ∧ nt_L b ≤ 510 ∧ nt_L b ≤ b ∧ 2 ^ nt_L b % nt_O b = 1 % nt_O b := by
  have h : (List.range 512).all (fun b => b == 0 || (Nat.ble 1 (nt_L b) && Nat.ble (nt_L b) 510 && Nat.ble (nt_L b) b && Nat.beq (2 ^ nt_L b % nt_O b) (1 % nt_O b))) = true := by decide +kernel
  intro b hb h0
  have := List.all_eq_true.mp h b (List.mem_range.mpr hb)
  simp only [Bool.or_eq_true, Bool.and_eq_true, beq_iff_eq, Nat.ble_eq, Nat.beq_eq] at this
  rcases this with q | ⟨⟨⟨a1, a2⟩, a3⟩, a4⟩
  · omega
  · exact ⟨a1, a2, a3, a4⟩
theorem nt_Glt {b : Nat} (h : nt_G b) : 0 < b ∧ b < 2 ^ 20 := by
  obtain ⟨h0, h1 | ⟨n, h1, h2, h3⟩⟩ := h
  · exact ⟨h0, by omega⟩
  · have hp : 2 ^ n ≤ 2 ^ 20 := Nat.pow_le_pow_right (by omega) h2
    have hp1 : 2 ^ 1 ≤ 2 ^ n := Nat.pow_le_pow_right (by omega) h1
    have := Nat.le_of_dvd (by omega) h3
    exact ⟨h0, by omega⟩
theorem nt_one_odd {b n : Nat} (h1 : 1 ≤ n) (h3 : b ∣ 2 ^ n - 1) : b % 2 = 1 := by
  obtain ⟨k, hk⟩ := h3
  obtain ⟨m, rfl⟩ : ∃ m, n = m + 1 := ⟨n - 1, by omega⟩
  have h2 : 0 < 2 ^ m := Nat.two_pow_pos m
  rw [Nat.pow_succ] at hk
  rcases Nat.mod_two_eq_zero_or_one b with q | q
  · obtain ⟨c, hc⟩ : ∃ c, b = 2 * c := ⟨b / 2, by omega⟩
    rw [hc, Nat.mul_assoc] at hk
    omega
  · exact q
theorem nt_Oodd {b : Nat} (h0 : 0 < b) (hb : b < 2 ^ 22) (h : b % 2 = 1) : nt_O b = b := by
  have := (nt_Todd h0 hb).mpr h
  unfold nt_O
  rw [this]
  simp
theorem nt_mod1 {o n : Nat} (h : o ∣ 2 ^ n - 1) : 2 ^ n % o = 1 % o := (nt_dvd (Nat.two_pow_pos n)).mpr h
theorem nt_Lspec {b : Nat} (h : nt_G b) : 1 ≤ nt_L b ∧ nt_L b ≤ 510 ∧ nt_L b ≤ b ∧ 2 ^ nt_L b % nt_O b = 1 % nt_O b ∧ ∀ j, 1 ≤ j → j < nt_L b → ¬ 2 ^ j % nt_O b = 1 % nt_O b := by
  have hl := nt_Glt h
  have ex : ∃ j, 1 ≤ j ∧ j < 1 + 600 ∧ 2 ^ j % nt_O b = 1 % nt_O b := by
    obtain ⟨h0, h1 | ⟨n, h1, h2, h3⟩⟩ := h
    · obtain ⟨a1, a2, -, a4⟩ := nt_small b (by omega) h0
      exact ⟨_, a1, by omega, a4⟩
    · have ho := nt_one_odd h1 h3
      rw [nt_Oodd h0 (by omega) ho]
      exact ⟨n, h1, by omega, nt_mod1 h3⟩
  obtain ⟨g1, g2, g3⟩ := ord_spec 600 (nt_O b) 1 ex
  refine ⟨g1, ?_, ?_, g2, g3⟩
  · obtain ⟨h0, h1 | ⟨n, h1, h2, h3⟩⟩ := h
    · exact (nt_small b (by omega) h0).2.1
    · have ho := nt_one_odd h1 h3
      rcases Nat.lt_or_ge 510 (nt_L b) with q | q
      · exact absurd (by rw [nt_Oodd h0 (by omega) ho]; exact nt_mod1 h3) (g3 n h1 (by have : nt_L b = ordF 600 (nt_O b) (2 ^ 1 % nt_O b) 1 := rfl; omega))
      · exact q
  · obtain ⟨h0, h1⟩ := h
    rcases Nat.lt_or_ge b 512 with q | q
    · exact (nt_small b q h0).2.2.1
    · obtain ⟨n, h1, h2, h3⟩ := h1.resolve_left (by omega)
      have ho := nt_one_odd h1 h3
      rcases Nat.lt_or_ge b (nt_L b) with q2 | q2
      · exact absurd (by rw [nt_Oodd h0 (by omega) ho]; exact nt_mod1 h3) (g3 n h1 (by have : nt_L b = ordF 600 (nt_O b) (2 ^ 1 % nt_O b) 1 := rfl; omega))
      · exact q2
theorem nt_Lle {b n : Nat} (h : nt_G b) (h1 : 1 ≤ n) (h3 : b ∣ 2 ^ n - 1) : nt_L b ≤ n := by
  have hl := nt_Glt h
  have ho := nt_one_odd h1 h3
  rcases Nat.lt_or_ge n (nt_L b) with q | q
  · exact absurd (by rw [nt_Oodd hl.1 (by omega) ho]; exact nt_mod1 h3) ((nt_Lspec h).2.2.2.2 n h1 q)
  · exact q
