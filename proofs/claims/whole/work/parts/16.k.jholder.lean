section TK
variable {z sz n : Nat} {w : mg_H} {A : ws_A} {S : ws_S} {pa : Option Nat} {p : Nat}
def hP (q : Nat × Nat) (m k j : Nat) : Bool := decide (j ≠ k) && (decide (tl j ≤ m) && (tH j q && tP j k))
theorem hP_sum {q : Nat × Nat} {m k : Nat} (h8 : m ≤ 8) (ho : 0 < q.2) (hk : k < 236) (h : tH k q = true) : nc_F (hP q m k) 236 0 = hR q m (tL k) := by
  unfold hR
  rw [← nc_up h8]
  refine nc_congr _ _ (fun j _ q2 => ?_)
  show (decide (j ≠ k) && (decide (tl j ≤ m) && (tH j q && tP j k))) = (decide (tl j ≤ m) && (tH j q && decide (tL j < tL k)))
  by_cases c : j = k
  · subst c
    rw [decide_eq_false (p := j ≠ j) (fun y => y rfl), decide_eq_false (Nat.lt_irrefl (tL j)), Bool.and_false, Bool.and_false, Bool.false_and]
  · rw [decide_eq_true (p := j ≠ k) c, Bool.true_and]
    by_cases d : tH j q = true
    · rw [tP_iff ho (by omega) hk c d h]
    · rw [Bool.eq_false_iff.mpr d, Bool.false_and, Bool.false_and]
theorem mt_holdC (hm : ws_M z w n A S km_l km_s km_g) {m i k : Nat} (h8 : m ≤ 8) (hi : i < n) (hk : k < 236) (x3 x4 : Int32) (r40 : Nat → Int32 → Int32 → Int32 → Int32 → Int32 → Option Int32) : ∀ d N j c, j + d = 236 → d < N → fX4_holder_b76 w r40 N (z + 4) (nI i) (nI m) x3 x4 (nI k) (nI c) (nI j) = fX4_holder_b140 w r40 (z + 4) (nI i) (nI m) x3 x4 (nI k) (nI (c + nc_F (hP (A i) m k) d j)) := by
  obtain ⟨g3, g4, g5, g6, l7, l8, l9⟩ := mt_tab hm
  obtain ⟨_, hz4⟩ := mt_z hm
  intro d
  induction d with
  | zero =>
    intro N j c h1 h2
    obtain ⟨N, rfl⟩ : ∃ m, N = m + 1 := ⟨N - 1, by omega⟩
    rw [fX4_holder_b76, g3, Option.bind_some, if_pos (nI_le (by omega) (by omega)), nc_F, show c + 0 = c from rfl]
  | succ d ih =>
    intro N j c h1 h2
    obtain ⟨N, rfl⟩ : ∃ m, N = m + 1 := ⟨N - 1, by omega⟩
    have hj : j < 236 := by omega
    have tf := tf hj
    rw [fX4_holder_b76, g3, Option.bind_some, if_neg (nI_ge (by omega) (by omega)), g4, l7 j hj, Option.bind_some, wr_rc hz4, mt_holdsT hm hj hi, Option.bind_some, nu_sel, wr_rc hz4, mt_holdsP hm hj hk, Option.bind_some, nu_sel, fX4_holder_b130, fX4_holder_b131, fX4_holder_b131, show nI j + 1 = nI (j + 1) from nI_1 j, show nI c + 1 = nI (c + 1) from nI_1 c, show nI c + 0 = nI c from nI_add c 0, ih N (j + 1) (c + 1) (by omega) (by omega), ih N (j + 1) c (by omega) (by omega), nu_ite (nI_eq (show j < 2 ^ 31 by omega) (show k < 2 ^ 31 by omega)), nu_ite (nI_ltI (show m < 2 ^ 31 by omega) (show tl j < 2 ^ 31 by omega)), nc_F]
    unfold hP
    by_cases c1 : j = k
    · rw [if_pos c1, decide_eq_false (p := j ≠ k) (fun q => q c1), Bool.false_and, if_neg (by decide), Nat.zero_add]
    · rw [if_neg c1, decide_eq_true (show j ≠ k from c1), Bool.true_and]
      by_cases e1 : tl j ≤ m
      · rw [if_neg (show ¬ m < tl j by omega), decide_eq_true e1, Bool.true_and]
        cases tH j (A i) <;> cases tP j k <;> simp only [Bool.and_false, Bool.and_true, Bool.false_eq_true, if_false, if_true, Nat.zero_add, Nat.add_assoc]
      · rw [if_pos (show m < tl j by omega), decide_eq_false e1, Bool.false_and, if_neg (by decide), Nat.zero_add]
/-- one step of the model's search -/
theorem mt_holdS (hm : ws_M z w n A S km_l km_s km_g) {m i k r : Nat} (h8 : m ≤ 8) (hi : i < n) (hr : r < 2 ^ 31) (hk : k < 236) (x4 : Int32) (N : Nat) : fX4_holder_b40 w (N + 1) (z + 4) (nI i) (nI m) (nI r) x4 (nI k) = if k < cu m ∧ tH k (A i) = true ∧ hR (A i) m (tL k) = r then some (hA x4 k) else fX4_holder_b40 w N (z + 4) (nI i) (nI m) (nI r) x4 (nI (k + 1)) := by
  obtain ⟨g3, g4, g5, g6, l7, l8, l9⟩ := mt_tab hm
  obtain ⟨_, hz4⟩ := mt_z hm
  have hl := nt_Glt (mt_ok hm hi).2.2
  have tf := tf hk
  have hu := tf_u h8 hk
  rw [fX4_holder_b40, g3, Option.bind_some, if_neg (nI_ge (by omega) (by omega)), g4, l7 k hk, Option.bind_some, wr_rc hz4, mt_holdsT hm hk hi, Option.bind_some, nu_sel, fX4_holder_b176, show nI k + 1 = nI (k + 1) from nI_1 k, nu_ite (nI_ltI (show m < 2 ^ 31 by omega) (show tl k < 2 ^ 31 by omega))]
  by_cases e1 : tl k ≤ m
  · rw [if_neg (show ¬ m < tl k by omega)]
    by_cases c : tH k (A i) = true
    · have := mt_holdC hm h8 hi hk (nI r) x4 (fX4_holder_b40 w N) 236 mg_N 0 0 (by omega) (by unfold mg_N; omega)
      rw [Nat.zero_add, show nI 0 = (0 : Int32) from nI_0, hP_sum h8 hl.1 hk c] at this
      rw [if_pos c, this, fX4_holder_b140, mt_b146 hm hk, fX4_holder_b176, show nI k + 1 = nI (k + 1) from nI_1 k]
      have hb : hR (A i) m (tL k) < 2 ^ 31 := by
        have := nc_le (P := fun j => tH j (A i) && decide (tL j < tL k)) (cu m) 0
        have := (cu_le m (by omega)).1
        unfold hR
        omega
      rw [nu_ite (nI_eq hb hr)]
      by_cases g : hR (A i) m (tL k) = r
      · rw [if_pos g, if_pos ⟨hu.mp e1, c, g⟩]
      · rw [if_neg g, if_neg (fun y => g y.2.2)]
    · rw [if_neg c, if_neg (fun y => c y.2.1)]
  · rw [if_pos (show m < tl k by omega), if_neg (fun y => e1 (hu.mpr y.1))]
theorem mt_holdY (hm : ws_M z w n A S km_l km_s km_g) {m i r k0 : Nat} (h8 : m ≤ 8) (hi : i < n) (hr : r < 2 ^ 31) (hk0 : k0 < cu m) (hh : tH k0 (A i) = true) (he : hR (A i) m (tL k0) = r) (x4 : Int32) : ∀ d N k, k + d = k0 → d < N → fX4_holder_b40 w N (z + 4) (nI i) (nI m) (nI r) x4 (nI k) = some (hA x4 k0) := by
  have hle := (cu_le m (by omega)).1
  intro d
  induction d with
  | zero =>
    intro N k h1 h2
    obtain ⟨N, rfl⟩ : ∃ m, N = m + 1 := ⟨N - 1, by omega⟩
    obtain rfl : k = k0 := by omega
    rw [mt_holdS hm h8 hi hr (by omega), if_pos ⟨hk0, hh, he⟩]
  | succ d ih =>
    intro N k h1 h2
    obtain ⟨N, rfl⟩ : ∃ m, N = m + 1 := ⟨N - 1, by omega⟩
    rw [mt_holdS hm h8 hi hr (by omega), if_neg (fun y => by have := hR_inj h8 y.1 hk0 y.2.1 hh (y.2.2.trans he.symm); omega)]
    exact ih N (k + 1) (by omega) (by omega)
theorem mt_holdN (hm : ws_M z w n A S km_l km_s km_g) {m i r : Nat} (h8 : m ≤ 8) (hi : i < n) (hr : r < 2 ^ 31) (hh : hN (A i) m ≤ r) (x4 : Int32) : ∀ d N k, k + d = 236 → d < N → fX4_holder_b40 w N (z + 4) (nI i) (nI m) (nI r) x4 (nI k) = some (-4) := by
  obtain ⟨g3, -⟩ := mt_tab hm
  intro d
  induction d with
  | zero =>
    intro N k h1 h2
    obtain ⟨N, rfl⟩ : ∃ m, N = m + 1 := ⟨N - 1, by omega⟩
    rw [fX4_holder_b40, g3, Option.bind_some, if_pos (nI_le (by omega) (by omega))]
  | succ d ih =>
    intro N k h1 h2
    obtain ⟨N, rfl⟩ : ∃ m, N = m + 1 := ⟨N - 1, by omega⟩
    rw [mt_holdS hm h8 hi hr (by omega), if_neg (fun y => by have := hR_lt h8 y.1 y.2.1; omega)]
    exact ih N (k + 1) (by omega) (by omega)
theorem j_holder (hc : ws_C z w sz n A S kt_L kt_G kt_U pa) (hm : ws_M z w n A S km_l km_s km_g) (x1 x2 x3 x4 : Int32) : jt_A z sz n A S (fX3_holder z x1 x2 x3 x4 w sz) (fX4_holder (z + 4) x1 x2 x3 x4) := by
  obtain ⟨_, hz⟩ := ct_z hc
  obtain ⟨_, hz4⟩ := mt_z hm
  have hn := ct_n hc
  unfold fX3_holder
  rw [wr_rc hz]
  rcases nu_ix x1 (n := n) (by omega) with hx | ⟨i, hi, rfl⟩
  · rw [ct_bad hc hx, Option.bind_some, wr_if0n]
    refine ⟨-1, w, 0, 0, pa, rfl, ?_, hc, hm, by omega, by omega⟩
    unfold fX4_holder
    rw [wr_rc hz4, mt_bad hm hx, Option.bind_some, if_pos rfl]
  · obtain ⟨a, h1, ha, h2⟩ := ct_at hc hi
    have ho := ct_ok hc hi
    rw [h1, Option.bind_some, wr_if0, st_isPairedLength, Option.bind_some, nu_sel, st_isEither, Option.bind_some, nu_sel]
    have hG : ∀ w', ws_M z w' n A S km_l km_s km_g → fX4_holder (z + 4) (nI i) x2 x3 x4 w' = if 1 ≤ x2.toInt ∧ x2.toInt ≤ 8 then (if x3 < 0 then some (-1) else if 0 ≤ x4.toInt ∧ x4.toInt ≤ 1 then fX4_holder_b40 w' mg_N (z + 4) (nI i) x2 x3 x4 (0 : Int32) else some (-1)) else some (-1) := by
      intro w' hm'
      obtain ⟨_, hz4'⟩ := mt_z hm'
      unfold fX4_holder
      rw [wr_rc hz4', (mt_at hm' hi).1, Option.bind_some, if_neg (by decide), st_inI (x := x2) (A := 1) (B := 8) (a := 1) (b := 8) rfl rfl, Option.bind_some, nu_sel, st_inI (x := x4) (A := 0) (B := 1) (a := 0) (b := 1) rfl rfl, Option.bind_some, nu_sel]
    by_cases c : 1 ≤ x2.toInt ∧ x2.toInt ≤ 8
    · rw [if_pos c]
      by_cases d : 0 ≤ x4.toInt ∧ x4.toInt ≤ 1
      · rw [if_pos d]
        by_cases f : x3 < 0
        · have : ¬ 0 ≤ x3 := fun q => by rw [Int32.lt_iff_toInt_lt] at f; rw [Int32.le_iff_toInt_le] at q; omega
          rw [if_neg this]
          exact ⟨-1, w, 0, 0, pa, rfl, by rw [hG w hm, if_pos c, if_pos f], hc, hm, by omega, by omega⟩
        · obtain ⟨r, hr, rfl⟩ := nI_of f
          obtain ⟨m, q1, q8, rfl⟩ := nu_rg (a := 1) (b := 8) (by omega) c
          obtain ⟨p, w1, kc, ks, e, hc1, hf, hold, b1, b2⟩ := ct_known hc
          have hm1 := ws_Mkeep hf hm
          have h2' := ct_old hc hold ha h2
          obtain ⟨⟨_, h0⟩, -⟩ := ct_tab hc1
          have hle := (cu_le m (by omega)).1
          obtain ⟨v, e0, hv⟩ := ct_next0 hc1 q8 h2' ho
          obtain ⟨v', e1, hv'⟩ := ct_holdL hc1 q8 h2' ho hr x4 (sz + kc) r mg_N 0 v (by omega) (by unfold mg_N; omega) hv
          rw [show nI 0 = (0 : Int32) from nI_0] at e1
          rw [if_pos (nI_pos' hr), wr_rc hz, e, wr_bA, wr_nn, wr_rc h0, e0, Option.bind_some, e1]
          have hG1 := hG w1 hm1
          rw [if_pos c, if_neg f, if_pos d] at hG1
          rcases hv' with ⟨rfl, g⟩ | ⟨k, hk, rfl, hh, g⟩
          · have := mt_holdN hm1 q8 hi hr g x4 236 mg_N 0 (by omega) (by unfold mg_N; omega)
            rw [show nI 0 = (0 : Int32) from nI_0] at this
            rw [fX3_holder_b82, if_neg (by decide), wr_bmp]
            exact ⟨-4, w1, _, _, some p, rfl, hG1.trans this, by rw [Nat.add_zero]; exact hc1, hm1, by omega, by omega⟩
          · have := mt_holdY hm1 q8 hi hr hk hh g x4 k mg_N 0 (by omega) (by unfold mg_N; omega)
            rw [show nI 0 = (0 : Int32) from nI_0] at this
            rw [ct_b82 hc1 (by omega), wr_bmp]
            exact ⟨_, w1, _, _, some p, rfl, hG1.trans this, by rw [Nat.add_zero]; exact hc1, hm1, by omega, by omega⟩
      · rw [if_neg d]
        refine ⟨-1, w, 0, 0, pa, rfl, ?_, hc, hm, by omega, by omega⟩
        rw [hG w hm, if_pos c, if_neg d, ite_self]
    · rw [if_neg c]
      exact ⟨-1, w, 0, 0, pa, rfl, by rw [hG w hm, if_neg c], hc, hm, by omega, by omega⟩
end TK
