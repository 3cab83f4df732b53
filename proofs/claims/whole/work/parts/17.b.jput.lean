section PU
variable {z sz n : Nat} {w : mg_H} {A : ws_A} {S : ws_S} {pa : Option Nat} {p : Nat}
theorem ws_Oldz {z sz : Nat} {w : mg_H} : ws_Old z sz w w := fun _ _ _ => rfl
theorem ct_put (hc : ws_C z w sz n A S kt_L kt_G kt_U (some p)) {a b k L : Nat} {qa q : Nat × Nat} (h3 : w a = some (ws_turn qa)) (h4 : w b = some (ws_turn q)) (ho : ws_ok q) (hk : k < 236) (hm : nt_L qa.2 = tl k) (hL : nt_L q.2 = L) (h1L : 1 ≤ L) (hmL : tl k * L ≤ 20) : (mg_bA (fX3_known z w sz) fun v11 w12 kc13 ks14 => (mg_gI w12 2 a 3).bind fun v15 => mg_nn v11 fun a16 => mg_rc w12 0 a16 ((fX0_digitsOf a16 (nI k) (0 : Int32) v15 w12).bind fun v17 => mg_rc w12 3 z (mg_bA (fX3_known z w12 (sz + kc13)) fun v18 w19 kc20 ks21 => (mg_gI w19 2 a 3).bind fun v22 => mg_nn v18 fun a23 => mg_rc w19 0 a23 ((fX0_digitsOf a23 (nI k) (1 : Int32) v22 w19).bind fun v24 => fX3_put_b94 mg_N z a b v17 v24 (0 : Int64) (0 : Int32) w19 (sz + kc13 + kc20))))) = mg_bmp 0 0 (mg_bmp 0 0 (mg_bA (fX3_keep z (lN (pu_F q.1 q.2 (tl k) (ts k) (tg k) L)) (lN (2 ^ (tl k * L) - 1)) w sz) fun v4 w5 kc6 ks7 => some (v4, w5, 0, 0))) := by
  obtain ⟨_, hz⟩ := ct_z hc
  obtain ⟨⟨_, h0⟩, -⟩ := ct_tab hc
  obtain ⟨-, -, -, u3⟩ := tu_g h3
  obtain ⟨-, -, -, t3⟩ := tu_g h4
  rw [hm] at u3
  rw [hL] at t3
  have htf := tf hk
  have hL20 : L ≤ 20 := Nat.le_trans (Nat.le_mul_of_pos_left L htf.1) hmL
  have hp20 := nu_p20 hmL
  have := ct_putL (z := z) (s := ts k) (g := tg k) h3 h4 ho hm hL hmL htf.1 (by have : tg k < 2 ^ tl k - 1 := htf.2.2.2.1; omega) htf.2.2.2.1 (sz + 0 + 0) L mg_N 0 (by omega) (by unfold mg_N; omega)
  rw [show nI 0 = (0 : Int32) from nI_0, pu_F, show lN 0 = (0 : Int64) from rfl] at this
  rw [ct_known2 hc, wr_bA, u3, Option.bind_some, wr_nn, wr_rc h0, ct_digits hc hk, Option.bind_some, wr_rc hz, show sz + 0 = sz from rfl, ct_known2 hc, wr_bA, u3, Option.bind_some, wr_nn, wr_rc h0, ct_digits hc hk, Option.bind_some, if_pos rfl, if_neg (by decide)]
  rw [show sz + 0 + 0 = sz from rfl] at this
  rw [show sz + 0 = sz from rfl, this, fX3_put_b157, u3, Option.bind_some, t3, Option.bind_some, pk_mul, st_ones _ (by omega), Option.bind_some, wr_rc hz, nI_l (by omega)]
theorem mt_put (hm : ws_M z w n A S km_l km_s km_g) {i j k L : Nat} (hi : i < n) (hj : j < n) (hk : tk (A i) k) (c : (A i).2 % 2 = 1) (d : nt_L (A i).2 ≤ 8) (hL : nt_L (A j).2 = L) (hcan : fX4_canPut (z + 4) (nI i) (nI j) w = some 1) : fX4_put (z + 4) (nI i) (nI j) w = if tl k * L ≤ 20 then mg_bS (fX4_comes (z + 4) (lN (pu_F (A j).1 (A j).2 (tl k) (ts k) (tg k) L)) (lN (2 ^ (tl k * L) - 1)) w) fun v4 w5 => some (v4, w5) else some (-2, w) := by
  obtain ⟨_, hz4⟩ := mt_z hm
  obtain ⟨i1, f1, f2, -, -⟩ := mt_at hm hi
  obtain ⟨j1, -, -, l5, l6⟩ := mt_at hm hj
  obtain ⟨g3, g4, g5, g6, l7, l8, l9⟩ := mt_tab hm
  have ho := mt_ok hm hj
  have htf := tf hk.1
  have hLs := nt_Lspec ho.2.2
  rw [hL] at hLs
  have hmul : L * tl k < 2 ^ 31 := by
    have : L * tl k ≤ 510 * 8 := Nat.mul_le_mul (by omega) (by omega)
    omega
  have e20 : (nI (L * tl k) ≤ 20) ↔ tl k * L ≤ 20 := by
    rw [Nat.mul_comm (tl k)]
    exact nI_leI (b := 20) hmul (by omega)
  unfold fX4_put
  rw [wr_rc hz4, i1, Option.bind_some, if_neg (by decide), wr_rc hz4, j1, Option.bind_some, if_neg (by decide), wr_rc hz4, hcan, Option.bind_some, if_neg (by decide), wr_rc hz4, (mt_pairOf hm hi).2 k hk c d, Option.bind_some, f2, l6, Option.bind_some, st_len ho.2.2, Option.bind_some, g4, l7 k hk.1, Option.bind_some, hL, pk_mul, nu_ite e20]
  by_cases g : tl k * L ≤ 20
  · have := mt_putL hm hj hk.1 g L mg_N 0 (by omega) (by unfold mg_N; omega)
    rw [show nI 0 = (0 : Int32) from nI_0, pu_F, show lN 0 = (0 : Int64) from rfl] at this
    rw [if_pos g, if_pos g, this, fX4_put_b121, g4, l7 k hk.1, Option.bind_some, pk_mul, Nat.mul_comm L, st_whole _ (by omega), Option.bind_some, wr_rc hz4]
  · rw [if_neg g, if_neg g]
theorem j_put (hc : ws_C z w sz n A S kt_L kt_G kt_U pa) (hm : ws_M z w n A S km_l km_s km_g) (x1 x2 : Int32) : jt_B z sz (fX3_put z x1 x2 w sz) (fX4_put (z + 4) x1 x2) := by
  obtain ⟨_, hz⟩ := ct_z hc
  obtain ⟨_, hz4⟩ := mt_z hm
  have hn := ct_n hc
  unfold fX3_put
  rw [wr_rc hz]
  rcases nu_ix x1 (n := n) (by omega) with hx | ⟨i, hi, rfl⟩
  · have : ∃ r, fX3_turnAt z x2 w = some r := by
      rcases nu_ix x2 (n := n) (by omega) with hy | ⟨j, hj, rfl⟩
      · exact ⟨_, ct_bad hc hy⟩
      · obtain ⟨b, h3, -, -⟩ := ct_at hc hj
        exact ⟨_, h3⟩
    obtain ⟨r, e⟩ := this
    rw [ct_bad hc hx, Option.bind_some, wr_rc hz, e, Option.bind_some, wr_if0n]
    refine ⟨-1, w, 0, 0, w, n, A, S, pa, rfl, ?_, hc, hm, by omega, by omega, mt_z hm⟩
    unfold fX4_put
    rw [wr_rc hz4, mt_bad hm hx, Option.bind_some, if_pos rfl]
  · obtain ⟨a, h1, ha, h2⟩ := ct_at hc hi
    rw [h1, Option.bind_some, wr_rc hz]
    rcases nu_ix x2 (n := n) (by omega) with hx | ⟨j, hj, rfl⟩
    · rw [ct_bad hc hx, Option.bind_some, wr_if0, wr_if0n]
      refine ⟨-1, w, 0, 0, w, n, A, S, pa, rfl, ?_, hc, hm, by omega, by omega, mt_z hm⟩
      unfold fX4_put
      rw [wr_rc hz4, (mt_at hm hi).1, Option.bind_some, if_neg (by decide), wr_rc hz4, mt_bad hm hx, Option.bind_some, if_pos rfl]
    · obtain ⟨b, h3, hb, h4⟩ := ct_at hc hj
      obtain ⟨v, w1, kc, ks, pa1, e1, hc1, hf1, ho1, b1, b2, t⟩ := j_can hc hi hj ha h2 hb h4
      have hm1 := ws_Mkeep hf1 hm
      obtain ⟨_, hz1⟩ := ct_z hc1
      obtain ⟨_, hz41⟩ := mt_z hm1
      rw [h3, Option.bind_some, wr_if0, wr_if0, wr_rc hz, e1, wr_bA]
      rcases t with ⟨rfl, t⟩ | ⟨k, p, rfl, hk, c, d, c', rfl, t⟩
      · rw [if_pos (by decide), wr_bmp]
        refine ⟨-2, w1, _, _, w1, n, A, S, pa1, rfl, ?_, hc1, hm1, by omega, by omega, mt_z hm1⟩
        unfold fX4_put
        rw [wr_rc hz41, (mt_at hm1 hi).1, Option.bind_some, if_neg (by decide), wr_rc hz41, (mt_at hm1 hj).1, Option.bind_some, if_neg (by decide), wr_rc hz41, t w1 hm1, Option.bind_some, if_pos rfl]
      · have a1 := hk.1
        have h2' := ct_old hc ho1 ha h2
        have h4' := ct_old hc ho1 hb h4
        have ho := ct_ok hc hj
        have hLs := nt_Lspec ho.2.2
        have htf := tf a1
        have hmul : tl k * nt_L (A j).2 < 2 ^ 31 := by
          have : tl k * nt_L (A j).2 ≤ 8 * 510 := Nat.mul_le_mul (by omega) (by omega)
          omega
        have e20 : (nI (tl k * nt_L (A j).2) ≤ 20) ↔ tl k * nt_L (A j).2 ≤ 20 := nI_leI (b := 20) hmul (by omega)
        rw [if_neg (nI_pos (by omega)), (tu_g h2').2.2.2, Option.bind_some, (tu_g h4').2.2.2, Option.bind_some, ← hk.2.1, pk_mul, nu_ite e20]
        by_cases g : tl k * nt_L (A j).2 ≤ 20
        · have hp20 := nu_p20 g
          have hlt := (pu_lt (u := (A j).1) (b := (A j).2) (m := tl k) (s := ts k) (g := tg k) (by have : tg k < 2 ^ tl k - 1 := htf.2.2.2.1; omega) htf.2.2.2.1 (nt_L (A j).2)).2 (by omega)
          have h1N : 1 ≤ tl k * nt_L (A j).2 := Nat.mul_le_mul htf.1 hLs.1
          obtain ⟨r, w3, kc3, ks3, w4, n4, A4, q1, q2, q3, q4, q5, q6, q7⟩ := jt_keep (a := pu_F (A j).1 (A j).2 (tl k) (ts k) (tg k) (nt_L (A j).2)) (b := 2 ^ (tl k * nt_L (A j).2) - 1) (c := pu_F (A j).1 (A j).2 (tl k) (ts k) (tg k) (nt_L (A j).2)) (d := 2 ^ (tl k * nt_L (A j).2) - 1) hc1 hm1 hlt (by omega) hlt (by omega) rfl (nt_Gp h1N g)
          have hm3 := ws_Mkeep q7 hm1
          rw [if_pos g, wr_rc hz1, ct_put hc1 h2' h4' ho a1 hk.2.1.symm rfl hLs.1 g, q1, wr_bA, wr_bmp, wr_bmp, wr_bmp, wr_bmp]
          refine ⟨r, w3, _, _, w4, n4, A4, S, some p, rfl, ?_, ?_, q4, by omega, by omega, mt_z hm3⟩
          · rw [mt_put hm3 hi hj hk c d rfl (t w3 hm3), if_pos g, q2, wr_bS]
          · rw [show sz + (kc + (0 + (0 + (kc3 + 0)))) = sz + kc + kc3 by omega]
            exact q3
        · rw [if_neg g, wr_bmp]
          refine ⟨-2, w1, _, _, w1, n, A, S, some p, rfl, ?_, hc1, hm1, by omega, by omega, mt_z hm1⟩
          rw [mt_put hm1 hi hj hk c d rfl (t w1 hm1), if_neg g]
end PU
