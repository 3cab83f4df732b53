/-! HELD, and the PAIR of an ANGLE -/
section TD
variable {z sz n : Nat} {w : mg_H} {A : ws_A} {S : ws_S} {pa : Option Nat} {p : Nat}
theorem ct_heldL (hc : ws_C z w sz n A S kt_L kt_G kt_U (some p)) {m a : Nat} {q : Nat × Nat} (h8 : m ≤ 8) (h : w a = some (ws_turn q)) (ho : ws_ok q) (s : Nat) : ∀ d N k c, k + d = cu m → d < N → fX3_held_b31 N (nI m) a (some p) (nI c) (nI k) w s = some (nI (c + nc_F (fun k => tH k q) d k), w, 0, 0) := by
  obtain ⟨⟨_, h0⟩, -⟩ := ct_tab hc
  have hle := (cu_le m (by omega)).1
  intro d
  induction d with
  | zero =>
    intro N k c h1 h2
    obtain ⟨N, rfl⟩ : ∃ m, N = m + 1 := ⟨N - 1, by omega⟩
    rw [fX3_held_b31]
    show mg_rc w 0 p _ = _
    rw [wr_rc h0, ct_upTo hc h8, Option.bind_some, if_pos (nI_le (by omega) (by omega)), nc_F, Nat.add_zero]
  | succ d ih =>
    intro N k c h1 h2
    obtain ⟨N, rfl⟩ : ∃ m, N = m + 1 := ⟨N - 1, by omega⟩
    rw [fX3_held_b31]
    show mg_rc w 0 p _ = _
    rw [wr_rc h0, ct_upTo hc h8, Option.bind_some, if_neg (nI_ge (by omega) (by omega)), wr_rc h0, ct_holdsT hc (by omega) h ho, Option.bind_some, nu_sel, fX3_held_b56, fX3_held_b56, show nI k + 1 = nI (k + 1) from nI_1 k, show nI c + 1 = nI (c + 1) from nI_1 c, ih N (k + 1) (c + 1) (by omega) (by omega), ih N (k + 1) c (by omega) (by omega), nc_F]
    by_cases e : tH k q = true
    · rw [if_pos e, if_pos e, Nat.add_assoc]
    · rw [if_neg e, if_neg e, Nat.zero_add]
theorem mt_heldL (hm : ws_M z w n A S km_l km_s km_g) {m i : Nat} (h8 : m ≤ 8) (hi : i < n) : ∀ d N k c, k + d = 236 → d < N → fX4_held_b27 w N (z + 4) (nI i) (nI m) (nI c) (nI k) = some (nI (c + nc_F (fun k => decide (tl k ≤ m) && tH k (A i)) d k)) := by
  obtain ⟨g3, g4, g5, g6, l7, l8, l9⟩ := mt_tab hm
  obtain ⟨_, hz4⟩ := mt_z hm
  intro d
  induction d with
  | zero =>
    intro N k c h1 h2
    obtain ⟨N, rfl⟩ : ∃ m, N = m + 1 := ⟨N - 1, by omega⟩
    rw [fX4_held_b27, g3, Option.bind_some, if_pos (nI_le (by omega) (by omega)), nc_F, Nat.add_zero]
  | succ d ih =>
    intro N k c h1 h2
    obtain ⟨N, rfl⟩ : ∃ m, N = m + 1 := ⟨N - 1, by omega⟩
    have tf := tf (show k < 236 by omega)
    rw [fX4_held_b27, g3, Option.bind_some, if_neg (nI_ge (by omega) (by omega)), g4, l7 k (by omega), Option.bind_some, wr_rc hz4, mt_holdsT hm (by omega) hi, Option.bind_some, nu_sel, fX4_held_b62, fX4_held_b63, fX4_held_b63, show nI k + 1 = nI (k + 1) from nI_1 k, show nI c + 1 = nI (c + 1) from nI_1 c, show nI c + 0 = nI c from nI_add c 0, ih N (k + 1) (c + 1) (by omega) (by omega), ih N (k + 1) c (by omega) (by omega), nu_ite (nI_ltI (show m < 2 ^ 31 by omega) (show tl k < 2 ^ 31 by omega)), nc_F]
    by_cases e1 : tl k ≤ m
    · rw [if_neg (show ¬ m < tl k by omega), decide_eq_true e1, Bool.true_and]
      by_cases e : tH k (A i) = true
      · rw [if_pos e, if_pos e, Nat.add_assoc]
      · rw [if_neg e, if_neg e, Nat.zero_add]
    · rw [if_pos (show m < tl k by omega), decide_eq_false e1, Bool.false_and, if_neg (by decide), Nat.zero_add]
theorem ct_old (hc : ws_C z w sz n A S kt_L kt_G kt_U pa) {w1 : mg_H} (ho : ws_Old z sz w w1) {a : Nat} {e : mg_E} (ha : z + 14 ≤ a) (h : w a = some e) : w1 a = some e := by
  rw [ho a ha (ct_lt hc h)]
  exact h
theorem j_held (hc : ws_C z w sz n A S kt_L kt_G kt_U pa) (hm : ws_M z w n A S km_l km_s km_g) (x1 x2 : Int32) : jt_A z sz n A S (fX3_held z x1 x2 w sz) (fX4_held (z + 4) x1 x2) := by
  obtain ⟨_, hz⟩ := ct_z hc
  obtain ⟨_, hz4⟩ := mt_z hm
  have hn := ct_n hc
  unfold fX3_held
  rw [wr_rc hz]
  rcases nu_ix x1 (n := n) (by omega) with hx | ⟨k, hk, rfl⟩
  · rw [ct_bad hc hx]
    refine ⟨-1, w, 0, 0, pa, rfl, ?_, hc, hm, by omega, by omega⟩
    unfold fX4_held
    rw [wr_rc hz4, mt_bad hm hx]
    rfl
  · obtain ⟨a, h1, ha, h2⟩ := ct_at hc hk
    have ho := ct_ok hc hk
    rw [h1, Option.bind_some]
    show jt_A z sz n A S ((fX3_isPairedLength x2).bind _) _
    rw [st_isPairedLength, Option.bind_some, nu_sel]
    by_cases c : 1 ≤ x2.toInt ∧ x2.toInt ≤ 8
    · obtain ⟨m, b1, b8, rfl⟩ := nu_rg (a := 1) (b := 8) (by omega) c
      obtain ⟨p, w1, kc, ks, e, hc1, hf, hold, k1, k2⟩ := ct_known hc
      have hm1 := ws_Mkeep hf hm
      have h2' := ct_old hc hold ha h2
      obtain ⟨_, hz41⟩ := mt_z hm1
      have hle := (cu_le m (by omega)).1
      rw [if_pos c, wr_rc hz, e]
      refine ⟨nI (nc_F (fun k' => tH k' (A k)) (cu m) 0), w1, kc, ks, some p, ?_, ?_, hc1, hm1, by omega, by omega⟩
      · show mg_bmp kc ks (fX3_held_b31 mg_N (nI m) a (some p) 0 0 w1 (sz + kc)) = _
        have := ct_heldL hc1 b8 h2' ho (sz + kc) (cu m) mg_N 0 0 (by omega) (by unfold mg_N; omega)
        rw [Nat.zero_add, show nI 0 = (0 : Int32) from nI_0] at this
        rw [this]
        rfl
      · unfold fX4_held
        rw [wr_rc hz41, (mt_at hm1 hk).1, Option.bind_some, if_neg (by decide), st_inI (x := nI m) (A := 1) (B := 8) (a := 1) (b := 8) rfl rfl, Option.bind_some, nu_sel, if_pos c]
        have := mt_heldL hm1 b8 hk 236 mg_N 0 0 (by omega) (by unfold mg_N; omega)
        rw [Nat.zero_add, nc_up b8, show nI 0 = (0 : Int32) from nI_0] at this
        exact this
    · rw [if_neg c]
      refine ⟨-1, w, 0, 0, pa, rfl, ?_, hc, hm, by omega, by omega⟩
      unfold fX4_held
      rw [wr_rc hz4, (mt_at hm hk).1, Option.bind_some, if_neg (by decide), st_inI (x := x2) (A := 1) (B := 8) (a := 1) (b := 8) rfl rfl, Option.bind_some, nu_sel, if_neg c]
/-- k is the number of q's PAIR -/
def tk (q : Nat × Nat) (k : Nat) : Prop := k < 236 ∧ tl k = nt_L q.2 ∧ q.2 * (tw k / q.2) = tw k ∧ (ts k = q.1 * (tw k / q.2) ∨ tg k = q.1 * (tw k / q.2))
theorem tk_uniq {q : Nat × Nat} {i j : Nat} (h1 : tk q i) (h2 : tk q j) : i = j := by
  obtain ⟨a1, a2, a3, a4⟩ := h1
  obtain ⟨b1, b2, b3, b4⟩ := h2
  have e : tl i = tl j := a2.trans b2.symm
  have ew : tw i = tw j := by unfold tw; rw [e]
  have et : tt i = tt j := by unfold tt; rw [ew]
  rcases Nat.decEq i j with hne | heq
  · exfalso
    obtain ⟨x1, x2, x3, -⟩ := tf_x a1 b1 hne
    obtain ⟨-, -, y3, -⟩ := tf_x b1 a1 (Ne.symm hne)
    unfold tL tG at *
    rw [ew] at a4
    rw [et] at x1 x2 x3 y3
    rcases a4 with a4 | a4 <;> rcases b4 with b4 | b4
    · exact x1 (by rw [a4, b4])
    · exact x3 (by rw [a4, b4])
    · exact y3 (by rw [a4, b4])
    · exact x2 (by rw [a4, b4])
  · exact heq
theorem tk_ex {q : Nat × Nat} (ho : ws_ok q) (h1 : q.2 % 2 = 1) (h8 : nt_L q.2 ≤ 8) : ∃ k, tk q k := by
  obtain ⟨u, b⟩ := q
  have hl := nt_Glt ho.2.2
  have hq : u < b := ho.1
  have hg : Nat.gcd u b = 1 := ho.2.1
  have hG : nt_G b := ho.2.2
  have hl : 0 < b ∧ b < 2 ^ 20 := hl
  have h1 : b % 2 = 1 := h1
  have h8 : nt_L b ≤ 8 := h8
  obtain ⟨l1, -, -, l4, -⟩ := nt_Lspec hG
  rw [nt_Oodd hl.1 (by omega) h1] at l4
  have hd : b ∣ 2 ^ nt_L b - 1 := (nt_dvd (Nat.two_pow_pos _)).mp l4
  obtain ⟨c, hc⟩ := hd
  have hp := nu_pw8 l1 h8
  have c0 : 0 < c := by
    rcases Nat.eq_zero_or_pos c with z | z
    · rw [z, Nat.mul_zero] at hc; omega
    · exact z
  have hgc : Nat.gcd (u * c) (2 ^ nt_L b - 1) = c := by rw [hc, Nat.gcd_mul_right, hg, Nat.one_mul]
  have hdiv : (2 ^ nt_L b - 1) / c = b := by rw [hc, Nat.mul_div_cancel _ c0]
  have hdb : (2 ^ nt_L b - 1) / b = c := by rw [hc, Nat.mul_div_cancel_left _ hl.1]
  obtain ⟨k, k1, k2, k3⟩ := tf_e (a := u * c) l1 h8 (by rw [hc]; exact Nat.mul_lt_mul_of_pos_right hq c0) (by rw [hgc, hdiv])
  have hw : tw k = 2 ^ nt_L b - 1 := by unfold tw; rw [k2]
  refine ⟨k, k1, k2, ?_, ?_⟩
  · show b * (tw k / b) = tw k
    rw [hw, hdb, ← hc]
  · show ts k = u * (tw k / b) ∨ tg k = u * (tw k / b)
    rw [hw, hdb]
    exact k3
theorem tk_part {q : Nat × Nat} {k : Nat} (ho : ws_ok q) (h : tk q k) : q.1 * (21082635 / q.2) = q.1 * (tw k / q.2) * tt k ∧ q.1 * (21082635 / q.2) < 21082635 := by
  obtain ⟨a1, a2, a3, a4⟩ := h
  have hl := nt_Glt ho.2.2
  have e := (tf a1).2.2.2.2
  have hd : 21082635 / q.2 = tw k / q.2 * tt k := by
    rw [← e]
    conv => lhs; rw [← a3]
    rw [Nat.mul_assoc, Nat.mul_div_cancel_left _ hl.1]
  refine ⟨by rw [hd, Nat.mul_assoc], ?_⟩
  have : q.2 * (21082635 / q.2) ≤ 21082635 := Nat.mul_div_le _ _
  have h2 : 0 < 21082635 / q.2 := by
    have := ho.1
    exact Nat.div_pos (by omega) hl.1
  exact Nat.lt_of_lt_of_le (Nat.mul_lt_mul_of_pos_right ho.1 h2) this
theorem ct_inParts {a : Nat} {q : Nat × Nat} (h : w a = some (ws_turn q)) (ho : ws_ok q) : fX2_inParts a w = some (nI (q.1 * (21082635 / q.2))) := by
  have hl := nt_Glt ho.2.2
  have hq := ho.1
  obtain ⟨t0, t1, -⟩ := tu_g h
  unfold fX2_inParts
  have hov : fX3_over 21082635 (lN q.2) = some (lN (21082635 / q.2)) := st_over (a := 21082635) (by omega) hl.1 (by omega)
  rw [t0, Option.bind_some, t1, Option.bind_some, nI_l (by omega), hov, Option.bind_some, nI_l (by omega), lN_mul, nu_i2n]
theorem ct_withL (hc : ws_C z w sz n A S kt_L kt_G kt_U (some p)) {e k : Nat} (hk : k < 236) (he : e < 2 ^ 31) (h1 : tL k = e ∨ tG k = e) (h2 : ∀ j, j < k → tL j ≠ e ∧ tG j ≠ e) : ∀ d N i, i + d = k → d < N → fX0_pairWith_b2 w N p (nI e) (nI i) = some (nI k) := by
  obtain ⟨⟨_, h0⟩, g3, g0, g1, g2, l1, l2, l3, len⟩ := ct_tab hc
  intro d
  induction d with
  | zero =>
    intro N i q1 q2
    obtain ⟨N, rfl⟩ : ∃ m, N = m + 1 := ⟨N - 1, by omega⟩
    obtain rfl : i = k := by omega
    have hb := tG_lt hk
    rw [fX0_pairWith_b2, g3, Option.bind_some, if_neg (nI_ge hk (by omega)), g0, l1 i hk, Option.bind_some, g1, l2 i hk, Option.bind_some]
    rcases h1 with h1 | h1
    · rw [h1, if_pos rfl]
    · rw [h1, if_pos (c := nI e = nI e) rfl]
      split <;> rfl
  | succ d ih =>
    intro N i q1 q2
    obtain ⟨N, rfl⟩ : ∃ m, N = m + 1 := ⟨N - 1, by omega⟩
    have hb := tG_lt (show i < 236 by omega)
    obtain ⟨n1, n2⟩ := h2 i (by omega)
    rw [fX0_pairWith_b2, g3, Option.bind_some, if_neg (nI_ge (by omega) (by omega)), g0, l1 i (by omega), Option.bind_some, if_neg (fun q => n1 ((nI_eq (by omega) he).mp q)), g1, l2 i (by omega), Option.bind_some, if_neg (fun q => n2 ((nI_eq (by omega) he).mp q)), show nI i + 1 = nI (i + 1) from nI_1 i]
    exact ih N (i + 1) (by omega) (by omega)
theorem tk_ne {q : Nat × Nat} {k j : Nat} (ho : ws_ok q) (h : tk q k) (hj : j < 236) (hne : j ≠ k) : tL j ≠ q.1 * (21082635 / q.2) ∧ tG j ≠ q.1 * (21082635 / q.2) := by
  obtain ⟨e, -⟩ := tk_part ho h
  obtain ⟨a1, a2, a3, a4⟩ := h
  obtain ⟨x1, x2, x3, -⟩ := tf_x hj a1 hne
  obtain ⟨-, -, y3, -⟩ := tf_x a1 hj (Ne.symm hne)
  rw [e]
  rcases a4 with a4 | a4 <;> rw [← a4]
  · exact ⟨x1, Ne.symm y3⟩
  · exact ⟨x3, x2⟩
theorem ct_pairOf (hc : ws_C z w sz n A S kt_L kt_G kt_U pa) {a : Nat} {q : Nat × Nat} (ha : z + 14 ≤ a) (h : w a = some (ws_turn q)) (ho : ws_ok q) : (¬ (q.2 % 2 = 1 ∧ nt_L q.2 ≤ 8) ∧ fX3_pairOf z a w sz = some (-1, w, 0, 0)) ∨ ∃ k p w1 kc ks, tk q k ∧ fX3_pairOf z a w sz = some (nI k, w1, kc, ks) ∧ ws_C z w1 (sz + kc) n A S kt_L kt_G kt_U (some p) ∧ ws_Fc z w w1 ∧ ws_Old z sz w w1 ∧ kc ≤ 5 ∧ ks ≤ 740 ∧ q.2 % 2 = 1 ∧ nt_L q.2 ≤ 8 := by
  obtain ⟨_, hz⟩ := ct_z hc
  have hL := nt_Lspec ho.2.2
  unfold fX3_pairOf
  rw [tu_rc h, tu_back h ho, Option.bind_some, nu_sel]
  by_cases c : q.2 % 2 = 1
  · rw [if_pos c, (tu_g h).2.2.2, Option.bind_some, st_isPairedLength, Option.bind_some, nu_sel, nI_toInt (by omega)]
    by_cases d : nt_L q.2 ≤ 8
    · right
      obtain ⟨k, hk⟩ := tk_ex ho c d
      obtain ⟨p, w1, kc, ks, e, hc1, hf, hold, k1, k2⟩ := ct_known hc
      have h' := ct_old hc hold ha h
      obtain ⟨⟨_, h0⟩, -⟩ := ct_tab hc1
      obtain ⟨e1, e2⟩ := tk_part ho hk
      refine ⟨k, p, w1, kc, ks, hk, ?_, hc1, hf, hold, k1, k2, c, d⟩
      rw [if_pos (by omega), wr_rc hz, e]
      show mg_bmp kc ks (mg_rc w1 2 a _) = _
      rw [tu_rc h', ct_inParts h' ho, Option.bind_some]
      show mg_bmp kc ks (mg_rc w1 0 p _) = _
      rw [wr_rc h0]
      unfold fX0_pairWith
      have := ct_withL hc1 (e := q.1 * (21082635 / q.2)) hk.1 (by omega) (by rw [e1]; exact hk.2.2.2.imp (fun z => by unfold tL; rw [z]) (fun z => by unfold tG; rw [z])) (fun j hj => tk_ne ho hk (by have := hk.1; omega) (by omega)) k mg_N 0 (by omega) (by have := hk.1; unfold mg_N; omega)
      rw [show nI 0 = (0 : Int32) from nI_0] at this
      rw [this]
      rfl
    · left
      rw [if_neg (by omega)]
      exact ⟨fun z => d z.2, rfl⟩
  · left
    rw [if_neg c]
    exact ⟨fun z => c z.1, rfl⟩
theorem mt_ofL (hm : ws_M z w n A S km_l km_s km_g) {q : Nat × Nat} {k : Nat} (ho : ws_ok q) (hk : tk q k) : ∀ d N i, i + d = k → d < N → fX4_pairOf_b52 w N (z + 4) (nI (nt_L q.2)) (lN (q.1 * (tw k / q.2))) (nI i) = some (nI k) := by
  obtain ⟨g3, g4, g5, g6, l7, l8, l9⟩ := mt_tab hm
  have hk0 := hk
  obtain ⟨a1, a2, a3, a4⟩ := hk
  have hL := nt_Lspec ho.2.2
  have hb := tw_bnd a1
  have hlt := (tf a1).2.2.2.1
  have hsl := (tf a1).2.2.1
  have hA : q.1 * (tw k / q.2) < 256 := by rcases a4 with a4 | a4 <;> omega
  intro d
  induction d with
  | zero =>
    intro N i q1 q2
    obtain ⟨N, rfl⟩ : ∃ m, N = m + 1 := ⟨N - 1, by omega⟩
    obtain rfl : i = k := by omega
    rw [fX4_pairOf_b52, g4, l7 i a1, Option.bind_some, a2, if_pos rfl, g5, l8 i a1, Option.bind_some, g6, l9 i a1, Option.bind_some]
    rcases a4 with a4 | a4
    · rw [a4, if_pos ((lg_cmp_eq _ _).mpr rfl)]
    · rw [a4, if_pos (c := lg_cmp (lN (q.1 * (tw i / q.2))) (lN (q.1 * (tw i / q.2))) = 0) ((lg_cmp_eq _ _).mpr rfl)]
      split <;> rfl
  | succ d ih =>
    intro N i q1 q2
    obtain ⟨N, rfl⟩ : ∃ m, N = m + 1 := ⟨N - 1, by omega⟩
    have hi : i < 236 := by omega
    have fi := tf hi
    have bi := tw_bnd hi
    rw [fX4_pairOf_b52, g4, l7 i hi, Option.bind_some, g5, l8 i hi, Option.bind_some, g6, l9 i hi, Option.bind_some, fX4_pairOf_b87, show nI i + 1 = nI (i + 1) from nI_1 i, ih N (i + 1) (by omega) (by omega)]
    by_cases c : tl i = nt_L q.2
    · have ew : tw i = tw k := by unfold tw; rw [c, a2]
      have hn : ¬ (ts i = q.1 * (tw k / q.2) ∨ tg i = q.1 * (tw k / q.2)) := by
        intro z
        have := tk_uniq hk0 (show tk q i from ⟨hi, c, by rw [ew]; exact a3, by rw [ew]; exact z⟩)
        omega
      rw [if_neg (c := lg_cmp (lN (ts i)) _ = 0) (fun z => hn (Or.inl ((pk_lEQ (by omega) (by omega)).mp ((lg_cmp_eq _ _).mp z)))), if_neg (c := lg_cmp (lN (tg i)) _ = 0) (fun z => hn (Or.inr ((pk_lEQ (by omega) (by omega)).mp ((lg_cmp_eq _ _).mp z))))]
      split <;> rfl
    · rw [if_neg (fun z => c ((nI_eq (by omega) (by omega)).mp z))]
end TD
