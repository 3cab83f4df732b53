theorem nu_ix (x : Int32) {n : Nat} (hn : n < 2 ^ 31) : (x < 0 ∨ nI n ≤ x) ∨ ∃ j : Nat, j < n ∧ x = nI j := by
  rcases pk_ix x hn with h | h | h
  · exact Or.inl (Or.inl h)
  · exact Or.inl (Or.inr h)
  · exact Or.inr h
theorem nu_rg {x : Int32} {a b : Nat} (hb : b < 2 ^ 31) (h : (a : Int) ≤ x.toInt ∧ x.toInt ≤ (b : Int)) : ∃ j : Nat, a ≤ j ∧ j ≤ b ∧ x = nI j := by
  refine ⟨x.toInt.toNat, by omega, by omega, Int32.toInt_inj.mp ?_⟩
  rw [nI_toInt (by omega)]
  omega
theorem nu_i2n (n : Nat) : (lN n).toInt32 = nI n := lN_i n
theorem nu_sel {α : Type} {c : Prop} [Decidable c] {x y : α} : (if (if c then (1 : Int32) else 0) = 0 then x else y) = if c then y else x := by
  by_cases q : c
  · rw [if_pos q, if_pos q, if_neg (by decide)]
  · rw [if_neg q, if_neg q, if_pos rfl]
section JA
variable {z sz n : Nat} {w : mg_H} {A : ws_A} {S : ws_S} {tL tG tU pl : Nat → Int32} {ps pg : Nat → Int64} {pa : Option Nat}
theorem j_told (hc : ws_C z w sz n A S tL tG tU pa) (hm : ws_M z w n A S pl ps pg) (x1 x2 : Int32) : ∃ r, fX3_told z x1 x2 w = some r ∧ fX4_told (z + 4) x1 x2 w = some r := by
  obtain ⟨_, hz⟩ := ct_z hc
  obtain ⟨_, hz4⟩ := mt_z hm
  have hn := ct_n hc
  unfold fX3_told fX4_told
  rw [wr_rc hz, wr_rc hz4]
  rcases nu_ix x1 (n := n) (by omega) with hx | ⟨k, hk, rfl⟩
  · rw [ct_bad hc hx, mt_bad hm hx]
    exact ⟨-1, rfl, rfl⟩
  · obtain ⟨a, h1, -, h2⟩ := ct_at hc hk
    obtain ⟨g1, g2, g3, g4, g5⟩ := mt_at hm hk
    have ho := ct_ok hc hk
    have hl := nt_Glt ho.2.2
    have hq := ho.1
    obtain ⟨t0, t1, t2, t3⟩ := tu_g h2
    rw [h1, g1]
    simp only [Option.bind_some, mg_if0, if_neg (show ¬ (1 : Int32) = 0 by decide), st_inI (x := x2) (A := 0) (B := 3) (a := 0) (b := 3) rfl rfl, nu_sel, t0, t1, t2, t3, g2, g3, g4, g5, st_tail hl.1 (show (A k).2 < 2 ^ 22 by omega), st_len ho.2.2, nu_i2n]
    by_cases c : 0 ≤ x2.toInt ∧ x2.toInt ≤ 3
    · rw [if_pos c]
      obtain ⟨j, -, hj, rfl⟩ := nu_rg (a := 0) (b := 3) (by omega) c
      match j, hj with
      | 0, _ => exact ⟨_, rfl, rfl⟩
      | 1, _ => exact ⟨_, rfl, rfl⟩
      | 2, _ => exact ⟨_, rfl, rfl⟩
      | 3, _ => exact ⟨_, rfl, rfl⟩
      | j + 4, hj => omega
    · rw [if_neg c, if_neg (fun q => c (by subst q; decide)), if_neg (fun q => c (by subst q; decide)), if_neg (fun q => c (by subst q; decide)), if_neg (fun q => c (by subst q; decide))]
      exact ⟨_, rfl, rfl⟩
theorem j_doubled (hc : ws_C z w sz n A S tL tG tU pa) (hm : ws_M z w n A S pl ps pg) (x1 x2 x3 : Int32) : ∃ r, fX3_doubled z x1 x2 x3 w = some r ∧ fX4_doubled (z + 4) x1 x2 x3 w = some r := by
  obtain ⟨_, hz⟩ := ct_z hc
  obtain ⟨_, hz4⟩ := mt_z hm
  have hn := ct_n hc
  unfold fX3_doubled fX4_doubled
  rw [wr_rc hz, wr_rc hz4]
  rcases nu_ix x1 (n := n) (by omega) with hx | ⟨k, hk, rfl⟩
  · rw [ct_bad hc hx, mt_bad hm hx]
    exact ⟨-1, rfl, rfl⟩
  · obtain ⟨a, h1, -, h2⟩ := ct_at hc hk
    obtain ⟨g1, g2, g3, g4, g5⟩ := mt_at hm hk
    have ho := ct_ok hc hk
    have hl := nt_Glt ho.2.2
    have hq := ho.1
    obtain ⟨t0, t1, t2, t3⟩ := tu_g h2
    rw [h1, g1]
    simp only [Option.bind_some, mg_if0, if_neg (show ¬ (1 : Int32) = 0 by decide), st_isDoublings, st_isEither, st_inI (x := x2) (A := 0) (B := 100) (a := 0) (b := 100) rfl rfl, st_inI (x := x3) (A := 0) (B := 1) (a := 0) (b := 1) rfl rfl, nu_sel, t0, t1, g2, g3, g4, g5, tu_rc h2]
    by_cases c : 0 ≤ x2.toInt ∧ x2.toInt ≤ 100
    · rw [if_pos c, if_pos c]
      by_cases d : 0 ≤ x3.toInt ∧ x3.toInt ≤ 1
      · rw [if_pos d, if_pos d]
        obtain ⟨m, -, hm2, rfl⟩ := nu_rg (a := 0) (b := 100) (by omega) c
        have hv : (A k).1 * 2 ^ m % (A k).2 < (A k).2 := Nat.mod_lt _ hl.1
        rw [tu_after h2 ho (by omega), st_after hq (by omega) (by omega)]
        simp only [Option.bind_some]
        generalize (A k).1 * 2 ^ m % (A k).2 = v at *
        have hgp : 0 < Nat.gcd v (A k).2 := Nat.gcd_pos_of_pos_right _ hl.1
        have hgl : Nat.gcd v (A k).2 ≤ (A k).2 := Nat.le_of_dvd hl.1 (Nat.gcd_dvd_right _ _)
        rw [nI_l (show v < 2 ^ 31 by omega), nI_l (show (A k).2 < 2 ^ 31 by omega), st_shared (by omega) (by omega), st_gcd (by omega) (by omega)]
        simp only [Option.bind_some, fX3_doubled_b66, if_neg (nu_lz hgp (show Nat.gcd v (A k).2 < 2 ^ 63 by omega)), st_over (show v < 2 ^ 63 by omega) hgp (show Nat.gcd v (A k).2 < 2 ^ 63 by omega), st_over (show (A k).2 < 2 ^ 63 by omega) hgp (show Nat.gcd v (A k).2 < 2 ^ 63 by omega), pk_lDiv (show v < 2 ^ 63 by omega) hgp (show Nat.gcd v (A k).2 < 2 ^ 63 by omega), pk_lDiv (show (A k).2 < 2 ^ 63 by omega) hgp (show Nat.gcd v (A k).2 < 2 ^ 63 by omega)]
        by_cases e : x3 = 0
        · rw [if_pos e]; exact ⟨_, rfl, rfl⟩
        · rw [if_neg e]; exact ⟨_, rfl, rfl⟩
      · rw [if_neg d, if_neg d]
        exact ⟨_, rfl, rfl⟩
    · rw [if_neg c, if_neg c]
      exact ⟨_, rfl, rfl⟩
theorem j_letter (hc : ws_C z w sz n A S tL tG tU pa) (hm : ws_M z w n A S pl ps pg) (x1 x2 x3 : Int32) : ∃ r, fX3_letter z x1 x2 x3 w = some r ∧ fX4_letter (z + 4) x1 x2 x3 w = some r := by
  obtain ⟨_, hz⟩ := ct_z hc
  obtain ⟨_, hz4⟩ := mt_z hm
  have hn := ct_n hc
  unfold fX3_letter fX4_letter
  simp only [wr_rc hz, wr_rc hz4]
  rcases nu_ix x1 (n := n) (by omega) with hx | ⟨k, hk, rfl⟩
  · rw [ct_bad hc hx, mt_bad hm hx]
    rcases nu_ix x2 (n := n) (by omega) with hy | ⟨l, hl, rfl⟩
    · rw [ct_bad hc hy]; exact ⟨-1, rfl, rfl⟩
    · obtain ⟨a, h1, -, h2⟩ := ct_at hc hl
      rw [h1]; exact ⟨-1, rfl, rfl⟩
  · obtain ⟨a, h1, -, h2⟩ := ct_at hc hk
    obtain ⟨g1, g2, g3, g4, g5⟩ := mt_at hm hk
    rw [h1, g1]
    simp only [Option.bind_some, mg_if0, if_neg (show ¬ (1 : Int32) = 0 by decide)]
    rcases nu_ix x2 (n := n) (by omega) with hy | ⟨l, hl, rfl⟩
    · rw [ct_bad hc hy, mt_bad hm hy]; exact ⟨-1, rfl, rfl⟩
    · obtain ⟨a2, i1, -, i2⟩ := ct_at hc hl
      obtain ⟨f1, f2, f3, f4, f5⟩ := mt_at hm hl
      have ho := ct_ok hc hk
      have ho2 := ct_ok hc hl
      have hb := nt_Glt ho.2.2
      have hb2 := nt_Glt ho2.2.2
      have hq := ho.1
      have hq2 := ho2.1
      rw [i1, f1]
      simp only [Option.bind_some, if_neg (show ¬ (1 : Int32) = 0 by decide), st_isDoublings, st_inI (x := x3) (A := 0) (B := 100) (a := 0) (b := 100) rfl rfl, nu_sel, tu_rc h2, tu_rc i2, (tu_g h2).2.1, fX4_letterOf, g2, g3, g4, g5, f4, f5]
      by_cases c : 0 ≤ x3.toInt ∧ x3.toInt ≤ 100
      · rw [if_pos c, if_pos c]
        obtain ⟨m, -, hm2, rfl⟩ := nu_rg (a := 0) (b := 100) (by omega) c
        have hv : (A k).1 * 2 ^ m % (A k).2 < (A k).2 := Nat.mod_lt _ hb.1
        rw [tu_after h2 ho (by omega), st_after hq (by omega) (by omega)]
        simp only [Option.bind_some]
        rw [tu_letter i2 ho2 (by omega) (by omega), st_side (by omega) (by omega) (by omega) (by omega)]
        exact ⟨_, rfl, rfl⟩
      · rw [if_neg c, if_neg c]
        exact ⟨_, rfl, rfl⟩
theorem mt_back (hm : ws_M z w n A S pl ps pg) {k : Nat} (hk : k < n) : fX4_isBack (z + 4) (nI k) w = some (if (A k).2 % 2 = 1 then 1 else 0) := by
  obtain ⟨g1, g2, g3, g4, g5⟩ := mt_at hm hk
  have ho : ws_ok (A k) := by
    obtain ⟨ft, fd, fh, fl, fs, fc, gl, gs, gg, h4, h5, h6, h7, h8, h9, h10, h11, h12, h13, hn, hA, -⟩ := hm
    exact (hA k hk).1
  have hb := nt_Glt ho.2.2
  unfold fX4_isBack
  rw [g3, g5, Option.bind_some, if_neg (by decide), show lN (A k).2 - lN (A k).2 / 2 * 2 = lN ((A k).2 % 2) from nu_rem (b := 2) (by omega) (by omega) (by omega)]
  simp only [lg_cmp_eq]
  by_cases c : (A k).2 % 2 = 1
  · rw [c, if_pos (show lN 1 = 1 from rfl), if_pos rfl]
  · rw [if_neg c, if_neg (show ¬ lN ((A k).2 % 2) = 1 from fun q => c ((pk_lEQ (b := 1) (by omega) (by omega)).mp q))]
theorem j_digit (hc : ws_C z w sz n A S tL tG tU pa) (hm : ws_M z w n A S pl ps pg) (x1 x2 : Int32) : ∃ r, fX3_digit z x1 x2 w = some r ∧ fX4_digit (z + 4) x1 x2 w = some r := by
  obtain ⟨_, hz⟩ := ct_z hc
  obtain ⟨_, hz4⟩ := mt_z hm
  have hn := ct_n hc
  unfold fX3_digit fX4_digit
  simp only [wr_rc hz, wr_rc hz4]
  rcases nu_ix x1 (n := n) (by omega) with hx | ⟨k, hk, rfl⟩
  · rw [ct_bad hc hx, mt_bad hm hx]
    exact ⟨-1, rfl, rfl⟩
  · obtain ⟨a, h1, -, h2⟩ := ct_at hc hk
    obtain ⟨g1, g2, g3, g4, g5⟩ := mt_at hm hk
    have ho := ct_ok hc hk
    have hl := nt_Glt ho.2.2
    have hq := ho.1
    obtain ⟨t0, t1, t2, t3⟩ := tu_g h2
    rw [h1, g1]
    simp only [Option.bind_some, mg_if0, if_neg (show ¬ (1 : Int32) = 0 by decide), st_isDoublings, st_inI (x := x2) (A := 0) (B := 100) (a := 0) (b := 100) rfl rfl, nu_sel, tu_rc h2, tu_back h2 ho, mt_back hm hk]
    by_cases c : 0 ≤ x2.toInt ∧ x2.toInt ≤ 100
    · rw [if_pos c, if_pos c]
      by_cases d : (A k).2 % 2 = 1
      · rw [if_pos d, if_pos d]
        obtain ⟨m, -, hm2, rfl⟩ := nu_rg (a := 0) (b := 100) (by omega) c
        have hv : (A k).1 * 2 ^ m % (A k).2 < (A k).2 := Nat.mod_lt _ hl.1
        unfold fX4_digitOf
        simp only [tu_after h2 ho (show m < 2 ^ 31 by omega), st_after hq (show (A k).2 < 2 ^ 30 by omega) (show m < 2 ^ 31 by omega), Option.bind_some, t1, g2, g3, g4, g5]
        generalize (A k).1 * 2 ^ m % (A k).2 = v at *
        simp only [nu_2, nu_2L, lg_cmp_lt]
        by_cases e : 2 * v < (A k).2
        · rw [if_pos (nI_lt e (by omega)), if_pos ((pk_lLT (by omega) (by omega)).mpr e)]
          exact ⟨_, rfl, rfl⟩
        · rw [if_neg (nI_nlt (by omega) (by omega)), if_neg (fun q => e ((pk_lLT (by omega) (by omega)).mp q))]
          exact ⟨_, rfl, rfl⟩
      · rw [if_neg d, if_neg d]
        exact ⟨_, rfl, rfl⟩
    · rw [if_neg c, if_neg c]
      exact ⟨_, rfl, rfl⟩
end JA
