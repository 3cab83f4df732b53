/-! HOLDS, BETWEEN -/
section TG
variable {z sz n : Nat} {w : mg_H} {A : ws_A} {S : ws_S} {pa : Option Nat} {p : Nat}
def tq (v m : Int32) : Prop := (v = -1 ∧ m = -4) ∨ ∃ k, k < 236 ∧ v = nI k ∧ m = nI k
theorem j_one (hc : ws_C z w sz n A S kt_L kt_G kt_U pa) {a i : Nat} (hi : i < n) (ha : z + 14 ≤ a) (h : w a = some (ws_turn (A i))) : ∃ v m w1 kc ks pa1, fX3_pairOf z a w sz = some (v, w1, kc, ks) ∧ ws_C z w1 (sz + kc) n A S kt_L kt_G kt_U pa1 ∧ ws_Fc z w w1 ∧ ws_Old z sz w w1 ∧ kc ≤ 5 ∧ ks ≤ 740 ∧ tq v m ∧ (v = -1 ∨ ∃ p, pa1 = some p) ∧ (∀ w', ws_M z w' n A S km_l km_s km_g → fX4_pairOf (z + 4) (nI i) w' = some m) ∧ (v = -1 ∨ ∃ k, v = nI k ∧ tk (A i) k ∧ (A i).2 % 2 = 1 ∧ nt_L (A i).2 ≤ 8) := by
  rcases ct_pairOf hc ha h (ct_ok hc hi) with ⟨q, e⟩ | ⟨k, p, w1, kc, ks, hk, e, hc1, hf, hold, k1, k2, c, d⟩
  · exact ⟨-1, -4, w, 0, 0, pa, e, hc, fun _ _ _ => rfl, fun _ _ _ => rfl, by omega, by omega, Or.inl ⟨rfl, rfl⟩, Or.inl rfl, fun w' hm => (mt_pairOf hm hi).1 q, Or.inl rfl⟩
  · exact ⟨nI k, nI k, w1, kc, ks, some p, e, hc1, hf, hold, k1, k2, Or.inr ⟨k, hk.1, rfl, rfl⟩, Or.inr ⟨p, rfl⟩, fun w' hm => (mt_pairOf hm hi).2 k hk c d, Or.inr ⟨k, rfl, hk, c, d⟩⟩
theorem j_two (hc : ws_C z w sz n A S kt_L kt_G kt_U pa) (hm : ws_M z w n A S km_l km_s km_g) {a b i j : Nat} (hi : i < n) (hj : j < n) (ha : z + 14 ≤ a) (h : w a = some (ws_turn (A i))) (hb : z + 14 ≤ b) (h' : w b = some (ws_turn (A j))) : ∃ vi mi vj mj w6 kc6 ks6 w10 kc11 ks12 pa1, fX3_pairOf z a w sz = some (vi, w6, kc6, ks6) ∧ (∃ fs, w6 z = some (.inl (3, fs))) ∧ fX3_pairOf z b w6 (sz + kc6) = some (vj, w10, kc11, ks12) ∧ ws_C z w10 (sz + kc6 + kc11) n A S kt_L kt_G kt_U pa1 ∧ ws_M z w10 n A S km_l km_s km_g ∧ kc6 ≤ 5 ∧ ks6 ≤ 740 ∧ kc11 ≤ 5 ∧ ks12 ≤ 740 ∧ tq vi mi ∧ tq vj mj ∧ (vj = -1 ∨ ∃ p, pa1 = some p) ∧ fX4_pairOf (z + 4) (nI i) w10 = some mi ∧ fX4_pairOf (z + 4) (nI j) w10 = some mj := by
  obtain ⟨vi, mi, w1, kc, ks, pa1, e1, hc1, hf1, ho1, b1, b2, t1, -, m1, -⟩ := j_one hc hi ha h
  have h2 := ct_old hc ho1 hb h'
  obtain ⟨vj, mj, w2, kc2, ks2, pa2, e2, hc2, hf2, ho2, b3, b4, t2, p2, m2, -⟩ := j_one hc1 hj hb h2
  have hm1 := ws_Mkeep hf1 hm
  have hm2 := ws_Mkeep hf2 hm1
  exact ⟨vi, mi, vj, mj, w1, kc, ks, w2, kc2, ks2, pa2, e1, ct_z hc1, e2, hc2, hm2, b1, b2, b3, b4, t1, t2, p2, m1 w2 hm2, m2 w2 hm2⟩
theorem nI_n4 {k : Nat} (h : k < 236) : ¬ nI k = -4 := by
  intro q
  have := congrArg Int32.toInt q
  rw [nI_toInt (by omega)] at this
  have h4 : (-4 : Int32).toInt = -4 := by decide
  omega
theorem nI_n1 {k : Nat} (h : k < 236) : ¬ nI k = -1 := by
  intro q
  have := congrArg Int32.toInt q
  rw [nI_toInt (by omega)] at this
  have h4 : (-1 : Int32).toInt = -1 := by decide
  omega
theorem j_holds (hc : ws_C z w sz n A S kt_L kt_G kt_U pa) (hm : ws_M z w n A S km_l km_s km_g) (x1 x2 : Int32) : jt_A z sz n A S (fX3_holds z x1 x2 w sz) (fX4_holds (z + 4) x1 x2) := by
  obtain ⟨_, hz⟩ := ct_z hc
  obtain ⟨_, hz4⟩ := mt_z hm
  have hn := ct_n hc
  unfold fX3_holds
  rw [wr_rc hz]
  rcases nu_ix x1 (n := n) (by omega) with hx | ⟨i, hi, rfl⟩
  · have : ∃ r, fX3_turnAt z x2 w = some r := by
      rcases nu_ix x2 (n := n) (by omega) with hy | ⟨j, hj, rfl⟩
      · exact ⟨_, ct_bad hc hy⟩
      · obtain ⟨b, h3, -, -⟩ := ct_at hc hj
        exact ⟨_, h3⟩
    obtain ⟨r, e⟩ := this
    rw [ct_bad hc hx, Option.bind_some, wr_rc hz, e, Option.bind_some, wr_if0n]
    refine ⟨-1, w, 0, 0, pa, rfl, ?_, hc, hm, by omega, by omega⟩
    unfold fX4_holds
    rw [wr_rc hz4, mt_bad hm hx, Option.bind_some, if_pos rfl]
  · obtain ⟨a, h1, ha, h2⟩ := ct_at hc hi
    rw [h1, Option.bind_some, wr_rc hz]
    rcases nu_ix x2 (n := n) (by omega) with hx | ⟨j, hj, rfl⟩
    · rw [ct_bad hc hx, Option.bind_some, wr_if0, wr_if0n]
      refine ⟨-1, w, 0, 0, pa, rfl, ?_, hc, hm, by omega, by omega⟩
      unfold fX4_holds
      rw [wr_rc hz4, (mt_at hm hi).1, Option.bind_some, if_neg (by decide), wr_rc hz4, mt_bad hm hx, Option.bind_some, if_pos rfl]
    · obtain ⟨b, h3, hb, h4⟩ := ct_at hc hj
      obtain ⟨vi, mi, vj, mj, w6, kc6, ks6, w10, kc11, ks12, pa1, e1, ⟨_, hz6⟩, e2, hc2, hm2, b1, b2, b3, b4, t1, t2, p2, m1, m2⟩ := j_two hc hm hi hj ha h2 hb h4
      obtain ⟨_, hz10⟩ := ct_z hc2
      obtain ⟨_, hz410⟩ := mt_z hm2
      have hG : fX4_holds (z + 4) (nI i) (nI j) w10 = if mi = (-4 : Int32) then (some (-2 : Int32)) else (if mj = (-4 : Int32) then (some (-2 : Int32)) else (mg_rc w10 4 (z + 4) ((fX4_isOrHolds (z + 4) mi mj w10).bind fun v5 => if v5 = 0 then (some (0 : Int32)) else (some (1 : Int32))))) := by
        unfold fX4_holds
        rw [wr_rc hz410, (mt_at hm2 hi).1, Option.bind_some, if_neg (by decide), wr_rc hz410, (mt_at hm2 hj).1, Option.bind_some, if_neg (by decide), wr_rc hz410, m1, Option.bind_some, wr_rc hz410, m2, Option.bind_some]
      rw [h3, Option.bind_some, wr_if0, wr_if0, wr_rc hz, e1, wr_bA, wr_rc hz6, e2, wr_bA]
      rcases t1 with ⟨rfl, rfl⟩ | ⟨k, hk, rfl, rfl⟩
      · rw [if_pos (by decide), wr_bmp, wr_bmp]
        refine ⟨-2, w10, _, _, pa1, rfl, ?_, ?_, hm2, by omega, by omega⟩
        · rw [hG, if_pos rfl]
        · rw [show sz + (kc6 + (kc11 + 0)) = sz + kc6 + kc11 by omega]; exact hc2
      · rw [if_neg (nI_pos (by omega))]
        rw [if_neg (nI_n4 hk)] at hG
        rcases t2 with ⟨rfl, rfl⟩ | ⟨l, hl, rfl, rfl⟩
        · rw [if_neg (by decide), wr_bmp, wr_bmp]
          refine ⟨-2, w10, _, _, pa1, rfl, ?_, ?_, hm2, by omega, by omega⟩
          · rw [hG, if_pos rfl]
          · rw [show sz + (kc6 + (kc11 + 0)) = sz + kc6 + kc11 by omega]; exact hc2
        · obtain ⟨p, rfl⟩ := p2.resolve_left (nI_n1 hl)
          obtain ⟨⟨_, h0⟩, -⟩ := ct_tab hc2
          rw [if_pos (nI_pos' (by omega)), wr_rc hz10, ct_known2 hc2, wr_bA, wr_nn, wr_rc h0, ct_holdsP hc2 hk hl, Option.bind_some]
          rw [if_neg (nI_n4 hl), wr_rc hz410, mt_holdsP hm2 hk hl, Option.bind_some, nu_sel] at hG
          refine ⟨if tP k l then 1 else 0, w10, kc6 + (kc11 + (0 + 0)), ks6 + (ks12 + (0 + 0)), some p, ?_, ?_, ?_, hm2, by omega, by omega⟩
          · unfold fX3_answer
            by_cases g : tP k l = true
            · rw [if_pos g]; rfl
            · rw [if_neg g]; rfl
          · rw [hG]
            by_cases g : tP k l = true
            · rw [if_pos g, if_pos g]
            · rw [if_neg g, if_neg g]
          · rw [show sz + (kc6 + (kc11 + (0 + 0))) = sz + kc6 + kc11 by omega]; exact hc2
/-- what lies between -/
def tB (o i k : Nat) : Bool := decide (k ≠ o) && decide (k ≠ i) && tP o k && tP k i
theorem ct_btwL (hc : ws_C z w sz n A S kt_L kt_G kt_U (some p)) {m o i : Nat} (h8 : m ≤ 8) (ho : o < 236) (hi : i < 236) : ∀ d N k c, k + d = cu m → d < N → fX0_amountBetween_b6 w N p (nI o) (nI i) (nI m) (nI c) (nI k) = some (nI (c + nc_F (tB o i) d k)) := by
  obtain ⟨⟨_, h0⟩, -⟩ := ct_tab hc
  have hle := (cu_le m (by omega)).1
  intro d
  induction d with
  | zero =>
    intro N k c h1 h2
    obtain ⟨N, rfl⟩ : ∃ m, N = m + 1 := ⟨N - 1, by omega⟩
    rw [fX0_amountBetween_b6, wr_rc h0, ct_upTo hc h8, Option.bind_some, if_pos (nI_le (by omega) (by omega)), nc_F, Nat.add_zero]
  | succ d ih =>
    intro N k c h1 h2
    obtain ⟨N, rfl⟩ : ∃ m, N = m + 1 := ⟨N - 1, by omega⟩
    have hk : k < 236 := by omega
    rw [fX0_amountBetween_b6, wr_rc h0, ct_upTo hc h8, Option.bind_some, if_neg (nI_ge (by omega) (by omega)), wr_rc h0, ct_holdsP hc ho hk, Option.bind_some, nu_sel, wr_rc h0, ct_holdsP hc hk hi, Option.bind_some, nu_sel, fX0_amountBetween_b51, fX0_amountBetween_b51, show nI k + 1 = nI (k + 1) from nI_1 k, show nI c + 1 = nI (c + 1) from nI_1 c, ih N (k + 1) (c + 1) (by omega) (by omega), ih N (k + 1) c (by omega) (by omega), nu_ite (nI_eq (show k < 2 ^ 31 by omega) (show o < 2 ^ 31 by omega)), nu_ite (nI_eq (show k < 2 ^ 31 by omega) (show i < 2 ^ 31 by omega)), nc_F]
    unfold tB
    by_cases c1 : k = o
    · rw [if_pos c1, decide_eq_false (fun q => q c1)]; simp only [Bool.false_and, Bool.false_eq_true, if_false, Nat.zero_add]
    · rw [if_neg c1, decide_eq_true (show k ≠ o from c1)]
      by_cases c2 : k = i
      · rw [if_pos c2, decide_eq_false (fun q => q c2)]; simp only [Bool.and_false, Bool.false_and, Bool.false_eq_true, if_false, Nat.zero_add]
      · rw [if_neg c2, decide_eq_true (show k ≠ i from c2), Bool.true_and, Bool.true_and]
        cases tP o k <;> cases tP k i <;> simp only [Bool.and_false, Bool.and_true, Bool.false_eq_true, if_false, if_true, Nat.zero_add, Nat.add_assoc]
theorem mt_btwL (hm : ws_M z w n A S km_l km_s km_g) {m o i : Nat} (h8 : m ≤ 8) (ho : o < 236) (hi : i < 236) : ∀ d N k c, k + d = 236 → d < N → fX4_between_b125 w N (z + 4) (nI m) (nI o) (nI i) (nI c) (nI k) = some (nI (c + nc_F (fun k => decide (tl k ≤ m) && tB o i k) d k)) := by
  obtain ⟨g3, g4, g5, g6, l7, l8, l9⟩ := mt_tab hm
  obtain ⟨_, hz4⟩ := mt_z hm
  intro d
  induction d with
  | zero =>
    intro N k c h1 h2
    obtain ⟨N, rfl⟩ : ∃ m, N = m + 1 := ⟨N - 1, by omega⟩
    rw [fX4_between_b125, g3, Option.bind_some, if_pos (nI_le (by omega) (by omega)), nc_F, Nat.add_zero]
  | succ d ih =>
    intro N k c h1 h2
    obtain ⟨N, rfl⟩ : ∃ m, N = m + 1 := ⟨N - 1, by omega⟩
    have hk : k < 236 := by omega
    have tf := tf hk
    rw [fX4_between_b125, g3, Option.bind_some, if_neg (nI_ge (by omega) (by omega)), g4, l7 k hk, Option.bind_some, wr_rc hz4, mt_holdsP hm ho hk, Option.bind_some, nu_sel, wr_rc hz4, mt_holdsP hm hk hi, Option.bind_some, nu_sel, fX4_between_b187, fX4_between_b188, fX4_between_b188, show nI k + 1 = nI (k + 1) from nI_1 k, show nI c + 1 = nI (c + 1) from nI_1 c, show nI c + 0 = nI c from nI_add c 0, ih N (k + 1) (c + 1) (by omega) (by omega), ih N (k + 1) c (by omega) (by omega), nu_ite (nI_eq (show k < 2 ^ 31 by omega) (show o < 2 ^ 31 by omega)), nu_ite (nI_eq (show k < 2 ^ 31 by omega) (show i < 2 ^ 31 by omega)), nu_ite (nI_ltI (show m < 2 ^ 31 by omega) (show tl k < 2 ^ 31 by omega)), nc_F]
    unfold tB
    by_cases c1 : k = o
    · rw [if_pos c1, decide_eq_false (p := k ≠ o) (fun q => q c1)]; simp only [Bool.and_false, Bool.false_and, Bool.false_eq_true, if_false, Nat.zero_add]
    · rw [if_neg c1, decide_eq_true (show k ≠ o from c1)]
      by_cases c2 : k = i
      · rw [if_pos c2, decide_eq_false (p := k ≠ i) (fun q => q c2)]; simp only [Bool.and_false, Bool.false_and, Bool.false_eq_true, if_false, Nat.zero_add]
      · rw [if_neg c2, decide_eq_true (show k ≠ i from c2), Bool.true_and, Bool.true_and]
        by_cases e1 : tl k ≤ m
        · rw [if_neg (show ¬ m < tl k by omega), decide_eq_true e1, Bool.true_and]
          cases tP o k <;> cases tP k i <;> simp only [Bool.and_false, Bool.and_true, Bool.false_eq_true, if_false, if_true, Nat.zero_add, Nat.add_assoc]
        · rw [if_pos (show m < tl k by omega), decide_eq_false e1, Bool.false_and, if_neg (by decide), Nat.zero_add]
theorem ct_btw (hc : ws_C z w sz n A S kt_L kt_G kt_U (some p)) {m o i : Nat} (h8 : m ≤ 8) (ho : o < 236) (hi : i < 236) : fX0_amountBetween p (nI o) (nI i) (nI m) w = some (nI (nc_F (tB o i) (cu m) 0)) := by
  have hle := (cu_le m (by omega)).1
  have := ct_btwL hc h8 ho hi (cu m) mg_N 0 0 (by omega) (by unfold mg_N; omega)
  rw [Nat.zero_add, show nI 0 = (0 : Int32) from nI_0] at this
  unfold fX0_amountBetween
  exact this
theorem mt_btw (hm : ws_M z w n A S km_l km_s km_g) {m o i : Nat} (h8 : m ≤ 8) (ho : o < 236) (hi : i < 236) : fX4_between_b117 w (z + 4) (nI m) (nI o) (nI i) = some (nI (nc_F (tB o i) (cu m) 0)) := by
  have := mt_btwL hm h8 ho hi 236 mg_N 0 0 (by omega) (by unfold mg_N; omega)
  rw [Nat.zero_add, nc_up h8, show nI 0 = (0 : Int32) from nI_0] at this
  unfold fX4_between_b117
  exact this
end TG
