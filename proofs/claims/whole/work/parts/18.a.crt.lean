/-! MEET: the numbers -/
theorem me_bez : ∀ (a b : Nat), ∃ x y : Int, (a : Int) * x + (b : Int) * y = (Nat.gcd a b : Nat) := by
  intro a
  induction a using Nat.strongRecOn with
  | _ a ih =>
    intro b
    rcases Nat.eq_zero_or_pos a with h | h
    · subst h
      exact ⟨0, 1, by rw [Nat.gcd_zero_left]; simp⟩
    · obtain ⟨x, y, e⟩ := ih (b % a) (Nat.mod_lt _ h) a
      refine ⟨y - ((b / a : Nat) : Int) * x, x, ?_⟩
      have h1 : Nat.gcd a b = Nat.gcd (b % a) a := Nat.gcd_rec a b
      have h2 : (b : Int) = (a : Int) * ((b / a : Nat) : Int) + ((b % a : Nat) : Int) := by
        have := Nat.div_add_mod b a
        rw [← Int.natCast_mul, ← Int.natCast_add, this]
      rw [h1, ← e, h2, Int.mul_sub, Int.add_mul, ← Int.mul_assoc]
      omega
theorem me_emod {a b : Nat} {x : Int} (h : (b : Int) ∣ (a : Int) - x) {j : Nat} (hj : j < b) (hx : x = j) : a % b = j := by
  have h2 : (a : Int) % b = x % b := (Int.emod_eq_emod_iff_emod_sub_eq_zero).mpr (Int.emod_eq_zero_of_dvd h)
  have h3 : ((a % b : Nat) : Int) = (j : Int) := by
    rw [Int.natCast_emod, h2, hx, ← Int.natCast_emod, Nat.mod_eq_of_lt hj]
  omega
theorem me_crt {L M i j : Nat} (hL : 0 < L) (hM : 0 < M) (hi : i < L) (hj : j < M) (h : i % Nat.gcd L M = j % Nat.gcd L M) : ∃ t, t < L / Nat.gcd L M * M ∧ t % L = i ∧ t % M = j := by
  obtain ⟨x, y, e⟩ := me_bez L M
  have hd : ((Nat.gcd L M : Nat) : Int) ∣ (j : Int) - (i : Int) := by
    apply Int.dvd_of_emod_eq_zero
    apply (Int.emod_eq_emod_iff_emod_sub_eq_zero).mp
    rw [← Int.natCast_emod, ← Int.natCast_emod, h]
  obtain ⟨c, hc⟩ := hd
  have hMz : (M : Int) ≠ 0 := by omega
  have hk0 := Int.emod_nonneg (x * c) hMz
  obtain ⟨k, hk⟩ := Int.eq_ofNat_of_zero_le hk0
  have hkd : (M : Int) ∣ (k : Int) - x * c := by
    refine ⟨-(x * c / M), ?_⟩
    have := Int.mul_ediv_add_emod (x * c) M
    rw [Int.mul_neg]
    omega
  have g0 : 0 < Nat.gcd L M := Nat.gcd_pos_of_pos_left _ hL
  have hLd : L ∣ L / Nat.gcd L M * M := by
    have e1 : Nat.gcd L M * (M / Nat.gcd L M) = M := Nat.mul_div_cancel' (Nat.gcd_dvd_right L M)
    have e2 : L / Nat.gcd L M * Nat.gcd L M = L := Nat.div_mul_cancel (Nat.gcd_dvd_left L M)
    refine ⟨M / Nat.gcd L M, ?_⟩
    have e3 : L / Nat.gcd L M * (Nat.gcd L M * (M / Nat.gcd L M)) = L * (M / Nat.gcd L M) := by rw [← Nat.mul_assoc, e2]
    rw [e1] at e3
    exact e3
  have hP : 0 < L / Nat.gcd L M * M := Nat.mul_pos (Nat.div_pos (Nat.le_of_dvd hL (Nat.gcd_dvd_left L M)) g0) hM
  refine ⟨(i + L * k) % (L / Nat.gcd L M * M), Nat.mod_lt _ hP, ?_, ?_⟩
  · rw [Nat.mod_mod_of_dvd _ hLd, Nat.add_mul_mod_self_left, Nat.mod_eq_of_lt hi]
  · rw [Nat.mod_mod_of_dvd _ (Nat.dvd_mul_left M _)]
    refine me_emod (x := (j : Int)) ?_ hj rfl
    obtain ⟨v, hv⟩ := hkd
    refine ⟨(L : Int) * v - y * c, ?_⟩
    have hk' : (k : Int) = x * c + M * v := by omega
    rw [Int.natCast_add, Int.natCast_mul, hk']
    have hc' : (j : Int) = i + Nat.gcd L M * c := by omega
    rw [hc', ← e, Int.mul_add, Int.mul_sub, Int.add_mul]
    have e1 : (L : Int) * (x * c) = L * x * c := (Int.mul_assoc _ _ _).symm
    have e2 : (L : Int) * (M * v) = M * (L * v) := Int.mul_left_comm _ _ _
    have e3 : (M : Int) * (y * c) = M * y * c := (Int.mul_assoc _ _ _).symm
    rw [e1, e2, e3]
    omega
def mX (q r : Nat × Nat) (t : Nat) : Nat := nt_S (q.1 * 2 ^ t % q.2) q.2 r.1 r.2
def me_g (a b : Nat) : Prop := a = b ∨ a = 2 ∨ b = 2
theorem mX_le (q r : Nat × Nat) (t : Nat) : mX q r t ≤ 2 := nt_Sle _ _ _ _
theorem me_per {q : Nat × Nat} (ho : ws_ok q) {T : Nat} (hT : nt_T q.2 ≤ T) (s : Nat) : q.1 * 2 ^ (T + s % nt_L q.2) % q.2 = q.1 * 2 ^ (T + s) % q.2 := by
  have hl := nt_Glt ho.2.2
  obtain ⟨-, -, -, l4, -⟩ := nt_Lspec ho.2.2
  have h := (nt_ring (a := q.1) (b := q.2) (k := nt_L q.2) ho.2.1 hl.1 (by omega)).mpr l4
  have h1 : ∀ k, q.1 * 2 ^ nt_T q.2 * 2 ^ (nt_L q.2 * k) % q.2 = q.1 * 2 ^ nt_T q.2 % q.2 := by
    intro k
    induction k with
    | zero => rw [Nat.mul_zero, Nat.pow_zero, Nat.mul_one]
    | succ k ih => rw [Nat.mul_succ, Nat.pow_add, ← Nat.mul_assoc, ← nu_mmod, ih, nu_mmod, h]
  have h2 := h1 (s / nt_L q.2)
  have e : T + s = nt_T q.2 + nt_L q.2 * (s / nt_L q.2) + (T - nt_T q.2 + s % nt_L q.2) := by
    have := Nat.div_add_mod s (nt_L q.2)
    omega
  have e2 : T + s % nt_L q.2 = nt_T q.2 + (T - nt_T q.2 + s % nt_L q.2) := by omega
  rw [e2, e, Nat.pow_add 2 (nt_T q.2 + nt_L q.2 * (s / nt_L q.2)), Nat.pow_add 2 (nt_T q.2) (nt_L q.2 * (s / nt_L q.2)), Nat.pow_add 2 (nt_T q.2), ← Nat.mul_assoc q.1, ← Nat.mul_assoc q.1, ← Nat.mul_assoc q.1, ← nu_mmod (q.1 * 2 ^ nt_T q.2 * 2 ^ (nt_L q.2 * (s / nt_L q.2))), h2, nu_mmod]
theorem mX_per {q : Nat × Nat} (r : Nat × Nat) (ho : ws_ok q) {T : Nat} (hT : nt_T q.2 ≤ T) (s : Nat) : mX q r (T + s % nt_L q.2) = mX q r (T + s) := by
  unfold mX
  rw [me_per ho hT]
/-- as far as the model looks, and as the class looks -/
theorem me_iff {p q r : Nat × Nat} (hp : ws_ok p) (hq : ws_ok q) {T : Nat} (h1 : nt_T p.2 ≤ T) (h2 : nt_T q.2 ≤ T) (hT : T ≤ 522) : (∀ t, t < nt_L p.2 / Nat.gcd (nt_L p.2) (nt_L q.2) * nt_L q.2 + 522 → me_g (mX p r t) (mX q r t)) ↔ (∀ t, t < T → me_g (mX p r t) (mX q r t)) ∧ ∀ j, j < nt_L q.2 → ∀ i, i < nt_L p.2 → i % Nat.gcd (nt_L p.2) (nt_L q.2) = j % Nat.gcd (nt_L p.2) (nt_L q.2) → me_g (mX p r (T + i)) (mX q r (T + j)) := by
  have l1 := (nt_Lspec hp.2.2).1
  have l2 := (nt_Lspec hq.2.2).1
  constructor
  · intro h
    refine ⟨fun t ht => h t (by omega), fun j hj i hi e => ?_⟩
    obtain ⟨t, t1, t2, t3⟩ := me_crt (by omega) (by omega) hi hj e
    rw [← t2, ← t3, mX_per r hp h1, mX_per r hq h2]
    exact h _ (by omega)
  · rintro ⟨ha, hb⟩ t ht
    by_cases c : t < T
    · exact ha t c
    · obtain ⟨s, rfl⟩ : ∃ s, t = T + s := ⟨t - T, by omega⟩
      rw [← mX_per r hp h1, ← mX_per r hq h2]
      refine hb _ (Nat.mod_lt _ (by omega)) _ (Nat.mod_lt _ (by omega)) ?_
      rw [Nat.mod_mod_of_dvd _ (Nat.gcd_dvd_left _ _), Nat.mod_mod_of_dvd _ (Nat.gcd_dvd_right _ _)]
