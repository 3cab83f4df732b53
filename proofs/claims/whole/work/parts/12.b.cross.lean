/-! fractions beside each other -/
theorem fr_eq {q r : Nat × Nat} (h1 : ws_ok q) (h2 : ws_ok r) (h : q.1 * r.2 = r.1 * q.2) : q = r := by
  obtain ⟨a, b⟩ := q
  obtain ⟨c, d⟩ := r
  obtain ⟨u1, u2, u3⟩ := h1
  obtain ⟨v1, v2, v3⟩ := h2
  have u1 : a < b := u1
  have v1 : c < d := v1
  have h : a * d = c * b := h
  have g1 : Nat.Coprime b a := Nat.Coprime.symm u2
  have g2 : Nat.Coprime d c := Nat.Coprime.symm v2
  have e1 : b ∣ d := g1.dvd_of_dvd_mul_left ⟨c, by rw [h, Nat.mul_comm]⟩
  have e2 : d ∣ b := g2.dvd_of_dvd_mul_left ⟨a, by rw [← h, Nat.mul_comm]⟩
  have e3 : b = d := Nat.dvd_antisymm e1 e2
  subst e3
  have e4 : a = c := Nat.eq_of_mul_eq_mul_right (by omega) h
  rw [e4]
theorem fr_trans {a b c : Nat × Nat} (ha : 0 < a.2) (hb : 0 < b.2) (hc : 0 < c.2) (h1 : a.1 * b.2 < b.1 * a.2) (h2 : b.1 * c.2 ≤ c.1 * b.2) : a.1 * c.2 < c.1 * a.2 := by
  have e1 : a.1 * b.2 * c.2 < b.1 * a.2 * c.2 := Nat.mul_lt_mul_of_pos_right h1 hc
  have e2 : b.1 * c.2 * a.2 ≤ c.1 * b.2 * a.2 := Nat.mul_le_mul_right _ h2
  have e3 : a.1 * c.2 * b.2 < c.1 * a.2 * b.2 := by
    rw [Nat.mul_right_comm a.1, Nat.mul_right_comm c.1]
    rw [Nat.mul_right_comm b.1] at e1
    omega
  exact Nat.lt_of_mul_lt_mul_right e3
theorem nu_sg3 (a b : Nat) : (a < b ∧ nu_sg a b = -1) ∨ (a = b ∧ nu_sg a b = 0) ∨ (b < a ∧ nu_sg a b = 1) := by
  unfold nu_sg
  by_cases c : a < b
  · exact Or.inl ⟨c, if_pos c⟩
  · by_cases d : b < a
    · exact Or.inr (Or.inr ⟨d, by rw [if_neg c, if_pos d]⟩)
    · exact Or.inr (Or.inl ⟨by omega, by rw [if_neg c, if_neg d]⟩)
section JB
variable {z sz n : Nat} {w : mg_H} {A : ws_A} {S : ws_S} {tL tG tU pl : Nat → Int32} {ps pg : Nat → Int64} {pa : Option Nat}
theorem mt_ok (hm : ws_M z w n A S pl ps pg) {k : Nat} (hk : k < n) : ws_ok (A k) := by
  obtain ⟨ft, fd, fh, fl, fs, fc, gl, gs, gg, h4, h5, h6, h7, h8, h9, h10, h11, h12, h13, hn, hA, -⟩ := hm
  exact (hA k hk).1
theorem mt_n (hm : ws_M z w n A S pl ps pg) : n ≤ 16 := by
  obtain ⟨ft, fd, fh, fl, fs, fc, gl, gs, gg, h4, h5, h6, h7, h8, h9, h10, h11, h12, h13, hn, -⟩ := hm
  exact hn
theorem st_below {a b c d : Nat} (h1 : a * d < 2 ^ 63) (h2 : c * b < 2 ^ 63) : fX4_isBelow (lN a) (lN b) (lN c) (lN d) = some (if a * d < c * b then 1 else 0) := by
  unfold fX4_isBelow
  simp only [lN_mul, lg_cmp_ge, pk_lLE h2 h1]
  by_cases q : a * d < c * b
  · rw [if_neg (by omega), if_pos q]
  · rw [if_pos (by omega), if_neg q]
theorem mt_less (hm : ws_M z w n A S pl ps pg) {i j : Nat} (hi : i < n) (hj : j < n) : fX4_isLess (z + 4) (nI i) (nI j) w = some (if (A i).1 * (A j).2 < (A j).1 * (A i).2 then 1 else 0) := by
  obtain ⟨g1, g2, g3, g4, g5⟩ := mt_at hm hi
  obtain ⟨f1, f2, f3, f4, f5⟩ := mt_at hm hj
  have ho := mt_ok hm hi
  have ho2 := mt_ok hm hj
  have hb := nt_Glt ho.2.2
  have hb2 := nt_Glt ho2.2.2
  have hq := ho.1
  have hq2 := ho2.1
  unfold fX4_isLess
  simp only [g2, g3, g4, g5, f4, f5, Option.bind_some]
  rw [st_below (Nat.lt_trans (nu_mul (by omega) (by omega)) (by omega)) (Nat.lt_trans (nu_mul (by omega) (by omega)) (by omega)), Option.bind_some]
  split <;> rfl
theorem mt_same (hm : ws_M z w n A S pl ps pg) {i j : Nat} (hi : i < n) (hj : j < n) : fX4_isSame (z + 4) (nI i) (nI j) w = some (if A i = A j then 1 else 0) := by
  obtain ⟨g1, g2, g3, g4, g5⟩ := mt_at hm hi
  obtain ⟨f1, f2, f3, f4, f5⟩ := mt_at hm hj
  have ho := mt_ok hm hi
  have ho2 := mt_ok hm hj
  have hb := nt_Glt ho.2.2
  have hb2 := nt_Glt ho2.2.2
  have hq := ho.1
  have hq2 := ho2.1
  unfold fX4_isSame
  simp only [g2, g3, g4, g5, f4, f5, Option.bind_some, lg_cmp_eq, pk_lEQ (show (A i).1 < 2 ^ 63 by omega) (show (A j).1 < 2 ^ 63 by omega), pk_lEQ (show (A i).2 < 2 ^ 63 by omega) (show (A j).2 < 2 ^ 63 by omega)]
  by_cases c : (A i).1 = (A j).1
  · rw [if_pos c]
    by_cases d : (A i).2 = (A j).2
    · rw [if_pos d, if_pos (Prod.ext c d)]
    · rw [if_neg d, if_neg (fun q => d (by rw [q]))]
  · rw [if_neg c, if_neg (fun q => c (by rw [q]))]
theorem j_cross (hc : ws_C z w sz n A S tL tG tU pa) (hm : ws_M z w n A S pl ps pg) (x1 x2 x3 x4 : Int32) : ∃ r, fX3_cross z x1 x2 x3 x4 w = some r ∧ fX4_cross (z + 4) x1 x2 x3 x4 w = some r := by
  obtain ⟨_, hz⟩ := ct_z hc
  obtain ⟨_, hz4⟩ := mt_z hm
  have hn := ct_n hc
  have tt : ∀ x : Int32, ∃ r, fX3_turnAt z x w = some r := by
    intro x
    rcases nu_ix x (n := n) (by omega) with hx | ⟨k, hk, rfl⟩
    · exact ⟨_, ct_bad hc hx⟩
    · obtain ⟨a, h1, -⟩ := ct_at hc hk
      exact ⟨_, h1⟩
  unfold fX3_cross fX4_cross
  simp only [wr_rc hz, wr_rc hz4]
  rcases nu_ix x1 (n := n) (by omega) with hx | ⟨i, hi, rfl⟩
  · obtain ⟨r2, e2⟩ := tt x2
    obtain ⟨r3, e3⟩ := tt x3
    obtain ⟨r4, e4⟩ := tt x4
    rw [ct_bad hc hx, e2, e3, e4, mt_bad hm hx]
    exact ⟨-1, rfl, rfl⟩
  · obtain ⟨a1, e1, -, k1⟩ := ct_at hc hi
    rw [e1, (mt_at hm hi).1]
    simp only [Option.bind_some, if_neg (show ¬ (1 : Int32) = 0 by decide)]
    rcases nu_ix x2 (n := n) (by omega) with hx | ⟨j, hj, rfl⟩
    · obtain ⟨r3, e3⟩ := tt x3
      obtain ⟨r4, e4⟩ := tt x4
      rw [ct_bad hc hx, e3, e4, mt_bad hm hx]
      exact ⟨-1, rfl, rfl⟩
    · obtain ⟨a2, e2, -, k2⟩ := ct_at hc hj
      rw [e2, (mt_at hm hj).1]
      simp only [Option.bind_some, if_neg (show ¬ (1 : Int32) = 0 by decide)]
      rcases nu_ix x3 (n := n) (by omega) with hx | ⟨u, hu, rfl⟩
      · obtain ⟨r4, e4⟩ := tt x4
        rw [ct_bad hc hx, e4, mt_bad hm hx]
        exact ⟨-1, rfl, rfl⟩
      · obtain ⟨a3, e3, -, k3⟩ := ct_at hc hu
        rw [e3, (mt_at hm hu).1]
        simp only [Option.bind_some, if_neg (show ¬ (1 : Int32) = 0 by decide)]
        rcases nu_ix x4 (n := n) (by omega) with hx | ⟨v, hv, rfl⟩
        · rw [ct_bad hc hx, mt_bad hm hx]
          exact ⟨-1, rfl, rfl⟩
        · obtain ⟨a4, e4, -, k4⟩ := ct_at hc hv
          have o1 := ct_ok hc hi
          have o2 := ct_ok hc hj
          have o3 := ct_ok hc hu
          have o4 := ct_ok hc hv
          rw [e4, (mt_at hm hv).1]
          simp only [Option.bind_some, if_neg (show ¬ (1 : Int32) = 0 by decide), mg_if0, tu_rc k3, tu_rc k4, tu_against k3 o3 k1 o1, tu_against k3 o3 k2 o2, tu_against k4 o4 k1 o1, tu_against k4 o4 k2 o2, mt_same hm hi hu, mt_same hm hi hv, mt_same hm hj hu, mt_same hm hj hv, nu_sel, fX4_liesBetween, wr_rc hz4, mt_less hm hi hj, mt_less hm hj hu, mt_less hm hu hi, mt_less hm hi hu, mt_less hm hu hj, mt_less hm hj hv, mt_less hm hv hi, mt_less hm hi hv, mt_less hm hv hj, fX3_cross_b98, fX3_answer]
          have p1 := (nt_Glt o1.2.2).1
          have p2 := (nt_Glt o2.2.2).1
          have p3 := (nt_Glt o3.2.2).1
          have p4 := (nt_Glt o4.2.2).1
          generalize A i = a at *
          generalize A j = b at *
          generalize A u = c at *
          generalize A v = d at *
          by_cases q1 : a = c
          · rw [if_pos q1, show nu_sg (c.1 * a.2) (a.1 * c.2) = 0 by rw [nu_sg0, q1]]
            refine ⟨0, ?_, rfl⟩
            rw [Int32.zero_mul, Int32.zero_mul]
            rfl
          · rw [if_neg q1]
            by_cases q2 : a = d
            · rw [if_pos q2, show nu_sg (d.1 * a.2) (a.1 * d.2) = 0 by rw [nu_sg0, q2]]
              refine ⟨0, ?_, rfl⟩
              rw [Int32.zero_mul, Int32.mul_zero]
              rfl
            · rw [if_neg q2]
              by_cases q3 : b = c
              · rw [if_pos q3, show nu_sg (c.1 * b.2) (b.1 * c.2) = 0 by rw [nu_sg0, q3]]
                refine ⟨0, ?_, rfl⟩
                rw [Int32.mul_zero, Int32.zero_mul]
                rfl
              · rw [if_neg q3]
                by_cases q4 : b = d
                · rw [if_pos q4, show nu_sg (d.1 * b.2) (b.1 * d.2) = 0 by rw [nu_sg0, q4]]
                  refine ⟨0, ?_, rfl⟩
                  rw [Int32.mul_zero, Int32.mul_zero]
                  rfl
                · rw [if_neg q4]
                  have n1 : ¬ c.1 * a.2 = a.1 * c.2 := fun q => q1 (fr_eq o3 o1 q).symm
                  have n2 : ¬ d.1 * a.2 = a.1 * d.2 := fun q => q2 (fr_eq o4 o1 q).symm
                  have n3 : ¬ c.1 * b.2 = b.1 * c.2 := fun q => q3 (fr_eq o3 o2 q).symm
                  have n4 : ¬ d.1 * b.2 = b.1 * d.2 := fun q => q4 (fr_eq o4 o2 q).symm
                  have t1 : c.1 * a.2 < a.1 * c.2 → a.1 * b.2 < b.1 * a.2 → c.1 * b.2 < b.1 * c.2 := fun h1 h2 => fr_trans p3 p1 p2 h1 (by omega)
                  have t2 : c.1 * b.2 < b.1 * c.2 → ¬ a.1 * b.2 < b.1 * a.2 → c.1 * a.2 < a.1 * c.2 := fun h1 h2 => fr_trans p3 p2 p1 h1 (by omega)
                  have t3 : d.1 * a.2 < a.1 * d.2 → a.1 * b.2 < b.1 * a.2 → d.1 * b.2 < b.1 * d.2 := fun h1 h2 => fr_trans p4 p1 p2 h1 (by omega)
                  have t4 : d.1 * b.2 < b.1 * d.2 → ¬ a.1 * b.2 < b.1 * a.2 → d.1 * a.2 < a.1 * d.2 := fun h1 h2 => fr_trans p4 p2 p1 h1 (by omega)
                  generalize c.1 * a.2 = m1 at *
                  generalize a.1 * c.2 = m2 at *
                  generalize d.1 * a.2 = m3 at *
                  generalize a.1 * d.2 = m4 at *
                  generalize c.1 * b.2 = m5 at *
                  generalize b.1 * c.2 = m6 at *
                  generalize d.1 * b.2 = m7 at *
                  generalize b.1 * d.2 = m8 at *
                  generalize a.1 * b.2 = m9 at *
                  generalize b.1 * a.2 = m0 at *
                  rcases nu_sg3 m1 m2 with ⟨y1, s1⟩ | ⟨y1, s1⟩ | ⟨y1, s1⟩
                  · rcases nu_sg3 m5 m6 with ⟨y2, s2⟩ | ⟨y2, s2⟩ | ⟨y2, s2⟩ <;> rcases nu_sg3 m3 m4 with ⟨y3, s3⟩ | ⟨y3, s3⟩ | ⟨y3, s3⟩ <;> rcases nu_sg3 m7 m8 with ⟨y4, s4⟩ | ⟨y4, s4⟩ | ⟨y4, s4⟩ <;> by_cases h9 : m9 < m0 <;> first | omega | (simp [s1, s2, s3, s4, h9, y1, y2, y3, y4, Nat.lt_asymm y1, Nat.lt_asymm y2, Nat.lt_asymm y3, Nat.lt_asymm y4]; done)
                  · omega
                  · rcases nu_sg3 m5 m6 with ⟨y2, s2⟩ | ⟨y2, s2⟩ | ⟨y2, s2⟩ <;> rcases nu_sg3 m3 m4 with ⟨y3, s3⟩ | ⟨y3, s3⟩ | ⟨y3, s3⟩ <;> rcases nu_sg3 m7 m8 with ⟨y4, s4⟩ | ⟨y4, s4⟩ | ⟨y4, s4⟩ <;> by_cases h9 : m9 < m0 <;> first | omega | (simp [s1, s2, s3, s4, h9, y1, y2, y3, y4, Nat.lt_asymm y1, Nat.lt_asymm y2, Nat.lt_asymm y3, Nat.lt_asymm y4]; done)
end JB
