section TB
variable {z sz n : Nat} {w : mg_H} {A : ws_A} {S : ws_S} {pa : Option Nat} {p : Nat}
theorem ct_dto (hc : ws_C z w sz n A S kt_L kt_G kt_U (some p)) {b k B : Nat} {q : Nat × Nat} (h4 : w b = some (ws_turn q)) (ho : ws_ok q) (hk : k < 236) (hB : B ≤ 20) : fX3_digitsTakenOut z (nI k) (nI (tl k)) b (nI B) w sz = if ta_O q.1 q.2 (tl k) (ts k) (tg k) B 0 then some (lN (ta_A q.1 q.2 (tl k) (tg k) B), w, 0, 0) else some (-1, w, 0, 0) := by
  obtain ⟨_, hz⟩ := ct_z hc
  obtain ⟨⟨_, h0⟩, -⟩ := ct_tab hc
  have hl := nt_Glt ho.2.2
  have hq := ho.1
  have htf := tf hk
  have hw := tw_bnd hk
  have := ct_takeL (m := tl k) (s := ts k) (g := tg k) h4 ho htf.2.1 (by omega) (by omega) hB sz B mg_N 0 (by omega) (by unfold mg_N; omega)
  rw [show nI 0 = (0 : Int32) from nI_0, ta_A, show lN 0 = (0 : Int64) from rfl, Nat.mul_zero, Nat.pow_zero, Nat.mul_one, Nat.mod_eq_of_lt hq] at this
  unfold fX3_digitsTakenOut
  rw [wr_rc hz, ct_known2 hc, wr_bA, wr_nn, wr_rc h0, ct_digits hc hk, Option.bind_some, wr_rc hz, show sz + 0 = sz from rfl, ct_known2 hc, wr_bA, wr_nn, wr_rc h0, ct_digits hc hk, Option.bind_some, if_pos rfl, if_neg (by decide), (tu_g h4).1, Option.bind_some, nI_l (by omega), show sz + 0 = sz from rfl, this]
  by_cases c : ta_O q.1 q.2 (tl k) (ts k) (tg k) B 0 = true
  · rw [if_pos c]; rfl
  · rw [if_neg c]; rfl
theorem ta_B {L m : Nat} (h1 : 1 ≤ L) (h2 : L ≤ 20) (hm : 1 ≤ m) : 1 ≤ Nat.gcd L m ∧ Nat.gcd L m ≤ 20 ∧ 1 ≤ L / Nat.gcd L m ∧ L / Nat.gcd L m ≤ 20 := by
  have g0 : 0 < Nat.gcd L m := Nat.gcd_pos_of_pos_left _ (by omega)
  have g1 : Nat.gcd L m ≤ L := Nat.le_of_dvd (by omega) (Nat.gcd_dvd_left _ _)
  have g2 := Nat.div_pos g1 g0
  have g3 := Nat.div_le_self L (Nat.gcd L m)
  omega
theorem mt_take (hm : ws_M z w n A S km_l km_s km_g) {i j k L : Nat} (hi : i < n) (hj : j < n) (hk : tk (A i) k) (c : (A i).2 % 2 = 1) (d : nt_L (A i).2 ≤ 8) (c' : (A j).2 % 2 = 1) (hL : nt_L (A j).2 = L) (hcan : fX4_canPut (z + 4) (nI i) (nI j) w = some 1) : fX4_take (z + 4) (nI i) (nI j) w = if L ≤ 20 then (if ta_O (A j).1 (A j).2 (tl k) (ts k) (tg k) (L / Nat.gcd L (tl k)) 0 then fX4_take_b213 (z + 4) (nI (L / Nat.gcd L (tl k))) (lN (ta_A (A j).1 (A j).2 (tl k) (tg k) (L / Nat.gcd L (tl k)))) 1 w else some (-4, w)) else some (-2, w) := by
  obtain ⟨_, hz4⟩ := mt_z hm
  obtain ⟨i1, f1, f2, -, -⟩ := mt_at hm hi
  obtain ⟨j1, -, -, l5, l6⟩ := mt_at hm hj
  obtain ⟨g3, g4, g5, g6, l7, l8, l9⟩ := mt_tab hm
  have ho := mt_ok hm hj
  have htf := tf hk.1
  have hLs := nt_Lspec ho.2.2
  rw [hL] at hLs
  have e20 : (nI L ≤ 20) ↔ L ≤ 20 := nI_leI (b := 20) (by omega) (by omega)
  unfold fX4_take
  rw [wr_rc hz4, i1, Option.bind_some, if_neg (by decide), wr_rc hz4, j1, Option.bind_some, if_neg (by decide), wr_rc hz4, hcan, Option.bind_some, if_neg (by decide), f2, l6, Option.bind_some, st_len ho.2.2, Option.bind_some, hL, nu_ite e20]
  by_cases g : L ≤ 20
  · obtain ⟨y1, y2, y3, y4⟩ := ta_B hLs.1 g htf.1
    have := mt_takeL hm hj hk.1 hL c' y4 (L / Nat.gcd L (tl k)) mg_N 0 (by omega) (by unfold mg_N; omega)
    rw [show nI 0 = (0 : Int32) from nI_0, ta_A, show lN 0 = (0 : Int64) from rfl] at this
    rw [if_pos g, if_pos g, wr_rc hz4, (mt_pairOf hm hi).2 k hk c d, Option.bind_some, g4, l7 k hk.1, Option.bind_some, f2, l6, Option.bind_some, st_len ho.2.2, Option.bind_some, hL, nI_l (by omega), nI_l (by omega), st_gcd (by omega) (by omega), Option.bind_some, nu_i2n, if_neg (nI_ne0 (by omega) (by omega)), pk_div (by omega) (by omega) (by omega), this]
  · rw [if_neg g, if_neg g]
theorem j_take (hc : ws_C z w sz n A S kt_L kt_G kt_U pa) (hm : ws_M z w n A S km_l km_s km_g) (x1 x2 : Int32) : jt_B z sz (fX3_take z x1 x2 w sz) (fX4_take (z + 4) x1 x2) := by
  obtain ⟨_, hz⟩ := ct_z hc
  obtain ⟨_, hz4⟩ := mt_z hm
  have hn := ct_n hc
  unfold fX3_take
  rw [wr_rc hz]
  rcases nu_ix x1 (n := n) (by omega) with hx | ⟨i, hi, rfl⟩
  · have : ∃ r, fX3_turnAt z x2 w = some r := by
      rcases nu_ix x2 (n := n) (by omega) with hy | ⟨j, hj, rfl⟩
      · exact ⟨_, ct_bad hc hy⟩
      · obtain ⟨b, h3, -, -⟩ := ct_at hc hj
        exact ⟨_, h3⟩
    obtain ⟨r, e⟩ := this
    rw [ct_bad hc hx, Option.bind_some, wr_rc hz, e, Option.bind_some, wr_if0n]
    refine ⟨-1, w, 0, 0, w, n, A, S, pa, rfl, ?_, hc, hm, by omega, by omega, mt_z hm⟩
    unfold fX4_take
    rw [wr_rc hz4, mt_bad hm hx, Option.bind_some, if_pos rfl]
  · obtain ⟨a, h1, ha, h2⟩ := ct_at hc hi
    rw [h1, Option.bind_some, wr_rc hz]
    rcases nu_ix x2 (n := n) (by omega) with hx | ⟨j, hj, rfl⟩
    · rw [ct_bad hc hx, Option.bind_some, wr_if0, wr_if0n]
      refine ⟨-1, w, 0, 0, w, n, A, S, pa, rfl, ?_, hc, hm, by omega, by omega, mt_z hm⟩
      unfold fX4_take
      rw [wr_rc hz4, (mt_at hm hi).1, Option.bind_some, if_neg (by decide), wr_rc hz4, mt_bad hm hx, Option.bind_some, if_pos rfl]
    · obtain ⟨b, h3, hb, h4⟩ := ct_at hc hj
      obtain ⟨v, w1, kc, ks, pa1, e1, hc1, hf1, ho1, b1, b2, t⟩ := j_can hc hi hj ha h2 hb h4
      have hm1 := ws_Mkeep hf1 hm
      obtain ⟨_, hz1⟩ := ct_z hc1
      obtain ⟨_, hz41⟩ := mt_z hm1
      rw [h3, Option.bind_some, wr_if0, wr_if0, wr_rc hz, e1, wr_bA]
      rcases t with ⟨rfl, t⟩ | ⟨k, p, rfl, hk, c, d, c', rfl, t⟩
      · rw [if_pos (by decide), wr_bmp]
        refine ⟨-2, w1, _, _, w1, n, A, S, pa1, rfl, ?_, hc1, hm1, by omega, by omega, mt_z hm1⟩
        unfold fX4_take
        rw [wr_rc hz41, (mt_at hm1 hi).1, Option.bind_some, if_neg (by decide), wr_rc hz41, (mt_at hm1 hj).1, Option.bind_some, if_neg (by decide), wr_rc hz41, t w1 hm1, Option.bind_some, if_pos rfl]
      · have a1 := hk.1
        have h2' := ct_old hc ho1 ha h2
        have h4' := ct_old hc ho1 hb h4
        have ho := ct_ok hc hj
        have hLs := nt_Lspec ho.2.2
        have htf := tf a1
        have e20 : (nI (nt_L (A j).2) ≤ 20) ↔ nt_L (A j).2 ≤ 20 := nI_leI (b := 20) (by omega) (by omega)
        have u3 := (tu_g h2').2.2.2
        have t3 := (tu_g h4').2.2.2
        rw [← hk.2.1] at u3
        rw [if_neg (nI_pos (by omega)), t3, Option.bind_some, nu_ite e20]
        by_cases g : nt_L (A j).2 ≤ 20
        · obtain ⟨y1, y2, y3, y4⟩ := ta_B hLs.1 g htf.1
          have hG : ∀ w', ws_M z w' n A S km_l km_s km_g → _ := fun w' hm' => mt_take hm' hi hj hk c d c' rfl (t w' hm')
          have hp20 := nu_p20 y4
          have hle := ta_le (A j).1 (A j).2 (tl k) (tg k) (nt_L (A j).2 / Nat.gcd (nt_L (A j).2) (tl k))
          rw [if_pos g, Option.bind_some, Option.bind_some, u3, Option.bind_some, nI_l (by omega), nI_l (by omega), st_shared (by omega) (by omega), Option.bind_some, st_over (by omega) (by omega) (by omega), Option.bind_some, Option.bind_some, wr_rc hz1, nu_i2n, ct_dto hc1 h4' ho a1 y4]
          by_cases f : ta_O (A j).1 (A j).2 (tl k) (ts k) (tg k) (nt_L (A j).2 / Nat.gcd (nt_L (A j).2) (tl k)) 0 = true
          · rw [if_pos f, wr_bA, show (0 : Int64) = lN 0 from rfl, nu_ite ((lg_cmp_lt _ _).trans (pk_lLT (show ta_A (A j).1 (A j).2 (tl k) (tg k) (nt_L (A j).2 / Nat.gcd (nt_L (A j).2) (tl k)) < 2 ^ 63 by omega) (show 0 < 2 ^ 63 by omega))), if_neg (Nat.not_lt_zero _), st_ones _ (by omega), Option.bind_some, nI_l (by omega), nu_ite ((lg_cmp_eq _ _).trans (pk_lEQ (show ta_A (A j).1 (A j).2 (tl k) (tg k) (nt_L (A j).2 / Nat.gcd (nt_L (A j).2) (tl k)) < 2 ^ 63 by omega) (show 2 ^ (nt_L (A j).2 / Nat.gcd (nt_L (A j).2) (tl k)) - 1 < 2 ^ 63 by omega))), Option.bind_some, wr_rc hz1]
            have hG2 : ∀ w', ws_M z w' n A S km_l km_s km_g → fX4_take (z + 4) (nI i) (nI j) w' = if ta_A (A j).1 (A j).2 (tl k) (tg k) (nt_L (A j).2 / Nat.gcd (nt_L (A j).2) (tl k)) = 2 ^ (nt_L (A j).2 / Nat.gcd (nt_L (A j).2) (tl k)) - 1 then some (-4, w') else mg_bS (fX4_comes (z + 4) (lN (ta_A (A j).1 (A j).2 (tl k) (tg k) (nt_L (A j).2 / Nat.gcd (nt_L (A j).2) (tl k)))) (lN (2 ^ (nt_L (A j).2 / Nat.gcd (nt_L (A j).2) (tl k)) - 1)) w') fun v3 w4 => some (v3, w4) := by
              intro w' hm'
              obtain ⟨_, hz4'⟩ := mt_z hm'
              rw [hG w' hm', if_pos g, if_pos f, fX4_take_b213, if_neg (by decide), st_whole _ (by omega), Option.bind_some, Option.bind_some, nu_ite ((lg_cmp_eq _ _).trans (pk_lEQ (show ta_A (A j).1 (A j).2 (tl k) (tg k) (nt_L (A j).2 / Nat.gcd (nt_L (A j).2) (tl k)) < 2 ^ 63 by omega) (show 2 ^ (nt_L (A j).2 / Nat.gcd (nt_L (A j).2) (tl k)) - 1 < 2 ^ 63 by omega))), wr_rc hz4']
            by_cases f2 : ta_A (A j).1 (A j).2 (tl k) (tg k) (nt_L (A j).2 / Nat.gcd (nt_L (A j).2) (tl k)) = 2 ^ (nt_L (A j).2 / Nat.gcd (nt_L (A j).2) (tl k)) - 1
            · rw [if_pos f2, wr_bmp, wr_bmp]
              refine ⟨-4, w1, _, _, w1, n, A, S, some p, rfl, ?_, hc1, hm1, by omega, by omega, mt_z hm1⟩
              rw [hG2 w1 hm1, if_pos f2]
            · have hlt : ta_A (A j).1 (A j).2 (tl k) (tg k) (nt_L (A j).2 / Nat.gcd (nt_L (A j).2) (tl k)) < 2 ^ (nt_L (A j).2 / Nat.gcd (nt_L (A j).2) (tl k)) - 1 := by omega
              obtain ⟨r, w3, kc3, ks3, w4, n4, A4, q1, q2, q3, q4, q5, q6, q7⟩ := jt_keep hc1 hm1 hlt (by omega) hlt (by omega) rfl (nt_Gp y3 y4)
              have hm3 := ws_Mkeep q7 hm1
              rw [if_neg f2, nI_l (by omega), show sz + kc + 0 = sz + kc from rfl, q1, wr_bA, wr_bmp, wr_bmp, wr_bmp]
              refine ⟨r, w3, _, _, w4, n4, A4, S, some p, rfl, ?_, ?_, q4, by omega, by omega, mt_z hm3⟩
              · rw [hG2 w3 hm3, if_neg f2, q2, wr_bS]
              · rw [show sz + (kc + (0 + (kc3 + 0))) = sz + kc + kc3 by omega]
                exact q3
          · rw [if_neg f, wr_bA, if_pos (by decide), wr_bmp, wr_bmp]
            refine ⟨-4, w1, _, _, w1, n, A, S, some p, rfl, ?_, hc1, hm1, by omega, by omega, mt_z hm1⟩
            rw [hG w1 hm1, if_pos g, if_neg f]
        · rw [if_neg g, wr_bmp]
          refine ⟨-2, w1, _, _, w1, n, A, S, some p, rfl, ?_, hc1, hm1, by omega, by omega, mt_z hm1⟩
          rw [mt_take hm1 hi hj hk c d c' rfl (t w1 hm1), if_neg g]
end TB
