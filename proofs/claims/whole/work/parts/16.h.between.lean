section TH
variable {z sz n : Nat} {w : mg_H} {A : ws_A} {S : ws_S} {pa : Option Nat} {p : Nat}
theorem tP_self (k : Nat) : tP k k = true := decide_eq_true ⟨Nat.le_refl _, Nat.le_refl _⟩
theorem mt_btw2 (hm : ws_M z w n A S km_l km_s km_g) {m k l : Nat} (h8 : m ≤ 8) (hk : k < 236) (hl : l < 236) (h : tP k l = true ∨ tP l k = true) : fX4_between_b83 w (z + 4) (nI m) (nI k) (nI l) = some (nI (if tP k l then nc_F (tB k l) (cu m) 0 else nc_F (tB l k) (cu m) 0)) := by
  obtain ⟨_, hz4⟩ := mt_z hm
  unfold fX4_between_b83
  rw [wr_rc hz4, mt_holdsP hm hk hl, Option.bind_some, nu_sel]
  by_cases g : tP k l = true
  · rw [if_pos g, if_pos g, fX4_between_b101, if_pos rfl, mt_btw hm h8 hk hl]
  · have hne : ¬ l = k := by
      rintro rfl
      exact g (tP_self l)
    rw [if_neg g, if_neg g, fX4_between_b101, if_neg (fun q => hne ((nI_eq (by omega) (by omega)).mp q)), mt_btw hm h8 hl hk]
theorem j_between (hc : ws_C z w sz n A S kt_L kt_G kt_U pa) (hm : ws_M z w n A S km_l km_s km_g) (x1 x2 x3 : Int32) : jt_A z sz n A S (fX3_between z x1 x2 x3 w sz) (fX4_between (z + 4) x1 x2 x3) := by
  obtain ⟨_, hz⟩ := ct_z hc
  obtain ⟨_, hz4⟩ := mt_z hm
  have hn := ct_n hc
  unfold fX3_between
  rw [wr_rc hz]
  rcases nu_ix x1 (n := n) (by omega) with hx | ⟨i, hi, rfl⟩
  · have : ∃ r, fX3_turnAt z x2 w = some r := by
      rcases nu_ix x2 (n := n) (by omega) with hy | ⟨j, hj, rfl⟩
      · exact ⟨_, ct_bad hc hy⟩
      · obtain ⟨b, h3, -, -⟩ := ct_at hc hj
        exact ⟨_, h3⟩
    obtain ⟨r, e⟩ := this
    rw [ct_bad hc hx, Option.bind_some, wr_rc hz, e, Option.bind_some, wr_if0n]
    refine ⟨-1, w, 0, 0, pa, rfl, ?_, hc, hm, by omega, by omega⟩
    unfold fX4_between
    rw [wr_rc hz4, mt_bad hm hx, Option.bind_some, if_pos rfl]
  · obtain ⟨a, h1, ha, h2⟩ := ct_at hc hi
    rw [h1, Option.bind_some, wr_rc hz]
    rcases nu_ix x2 (n := n) (by omega) with hx | ⟨j, hj, rfl⟩
    · rw [ct_bad hc hx, Option.bind_some, wr_if0, wr_if0n]
      refine ⟨-1, w, 0, 0, pa, rfl, ?_, hc, hm, by omega, by omega⟩
      unfold fX4_between
      rw [wr_rc hz4, (mt_at hm hi).1, Option.bind_some, if_neg (by decide), wr_rc hz4, mt_bad hm hx, Option.bind_some, if_pos rfl]
    · obtain ⟨b, h3, hb, h4⟩ := ct_at hc hj
      rw [h3, Option.bind_some, wr_if0, wr_if0, st_isPairedLength, Option.bind_some, nu_sel]
      have hG0 : ∀ w', ws_M z w' n A S km_l km_s km_g → fX4_between (z + 4) (nI i) (nI j) x3 w' = if 1 ≤ x3.toInt ∧ x3.toInt ≤ 8 then (mg_rc w' 4 (z + 4) ((fX4_pairOf (z + 4) (nI i) w').bind fun v4 => mg_rc w' 4 (z + 4) ((fX4_pairOf (z + 4) (nI j) w').bind fun v5 => if v4 = (-4 : Int32) then (some (-2 : Int32)) else (if v5 = (-4 : Int32) then (some (-2 : Int32)) else (mg_rc w' 4 (z + 4) ((fX4_isOrHolds (z + 4) v4 v5 w').bind fun v6 => if v6 = 0 then (mg_rc w' 4 (z + 4) ((fX4_isOrHolds (z + 4) v5 v4 w').bind fun v7 => if v7 = 0 then (some (-2 : Int32)) else (fX4_between_b83 w' (z + 4) x3 v4 v5))) else (fX4_between_b83 w' (z + 4) x3 v4 v5))))))) else some (-1) := by
        intro w' hm'
        obtain ⟨_, hz4'⟩ := mt_z hm'
        unfold fX4_between
        rw [wr_rc hz4', (mt_at hm' hi).1, Option.bind_some, if_neg (by decide), wr_rc hz4', (mt_at hm' hj).1, Option.bind_some, if_neg (by decide), st_inI (x := x3) (A := 1) (B := 8) (a := 1) (b := 8) rfl rfl, Option.bind_some, nu_sel]
      by_cases c : 1 ≤ x3.toInt ∧ x3.toInt ≤ 8
      · obtain ⟨m, q1, q8, rfl⟩ := nu_rg (a := 1) (b := 8) (by omega) c
        obtain ⟨vi, mi, vj, mj, w6, kc6, ks6, w10, kc11, ks12, pa1, e1, ⟨_, hz6⟩, e2, hc2, hm2, b1, b2, b3, b4, t1, t2, p2, m1, m2⟩ := j_two hc hm hi hj ha h2 hb h4
        obtain ⟨_, hz10⟩ := ct_z hc2
        obtain ⟨_, hz410⟩ := mt_z hm2
        have hG := hG0 w10 hm2
        rw [if_pos c, wr_rc hz410, m1, Option.bind_some, wr_rc hz410, m2, Option.bind_some] at hG
        rw [if_pos c, wr_rc hz, e1, wr_bA, wr_rc hz6, e2, wr_bA]
        rcases t1 with ⟨rfl, rfl⟩ | ⟨k, hk, rfl, rfl⟩
        · rw [if_pos (by decide), wr_bmp, wr_bmp]
          refine ⟨-2, w10, _, _, pa1, rfl, ?_, ?_, hm2, by omega, by omega⟩
          · rw [hG, if_pos rfl]
          · rw [show sz + (kc6 + (kc11 + 0)) = sz + kc6 + kc11 by omega]; exact hc2
        · rw [if_neg (nI_pos (by omega))]
          rw [if_neg (nI_n4 hk)] at hG
          rcases t2 with ⟨rfl, rfl⟩ | ⟨l, hl, rfl, rfl⟩
          · rw [if_neg (by decide), wr_bmp, wr_bmp]
            refine ⟨-2, w10, _, _, pa1, rfl, ?_, ?_, hm2, by omega, by omega⟩
            · rw [hG, if_pos rfl]
            · rw [show sz + (kc6 + (kc11 + 0)) = sz + kc6 + kc11 by omega]; exact hc2
          · obtain ⟨p, rfl⟩ := p2.resolve_left (nI_n1 hl)
            obtain ⟨⟨_, h0⟩, -⟩ := ct_tab hc2
            rw [if_pos (nI_pos' (by omega)), wr_rc hz10, ct_known2 hc2, wr_bA, wr_nn, wr_rc h0, ct_holdsP hc2 hk hl, Option.bind_some, nu_sel, wr_rc h0, ct_holdsP hc2 hl hk, Option.bind_some, nu_sel, wr_rc h0, ct_btw hc2 q8 hl hk, Option.bind_some, wr_rc h0, ct_btw hc2 q8 hk hl, Option.bind_some]
            rw [if_neg (nI_n4 hl), wr_rc hz410, mt_holdsP hm2 hk hl, Option.bind_some, nu_sel, wr_rc hz410, mt_holdsP hm2 hl hk, Option.bind_some, nu_sel] at hG
            by_cases g : tP k l = true
            · rw [if_pos g, wr_bmp, wr_bmp, wr_bmp]
              rw [if_pos g, mt_btw2 hm2 q8 hk hl (Or.inl g), if_pos g] at hG
              refine ⟨_, w10, _, _, some p, rfl, hG, ?_, hm2, by omega, by omega⟩
              rw [show sz + (kc6 + (kc11 + (0 + 0))) = sz + kc6 + kc11 by omega]; exact hc2
            · rw [if_neg g]
              rw [if_neg g] at hG
              by_cases g2 : tP l k = true
              · rw [if_pos g2, wr_bmp, wr_bmp, wr_bmp]
                rw [if_pos g2, mt_btw2 hm2 q8 hk hl (Or.inr g2), if_neg g] at hG
                refine ⟨_, w10, _, _, some p, rfl, hG, ?_, hm2, by omega, by omega⟩
                rw [show sz + (kc6 + (kc11 + (0 + 0))) = sz + kc6 + kc11 by omega]; exact hc2
              · rw [if_neg g2, wr_bmp, wr_bmp, wr_bmp]
                rw [if_neg g2] at hG
                refine ⟨_, w10, _, _, some p, rfl, hG, ?_, hm2, by omega, by omega⟩
                rw [show sz + (kc6 + (kc11 + (0 + 0))) = sz + kc6 + kc11 by omega]; exact hc2
      · rw [if_neg c]
        refine ⟨-1, w, 0, 0, pa, rfl, ?_, hc, hm, by omega, by omega⟩
        rw [hG0 w hm, if_neg c]
end TH
