/-! counting -/
def nc_F (P : Nat → Bool) : Nat → Nat → Nat
  | 0, _ => 0
  | d + 1, i => (if P i = true then 1 else 0) + nc_F P d (i + 1)
theorem nc_congr {P Q : Nat → Bool} : ∀ d i, (∀ k, i ≤ k → k < i + d → P k = Q k) → nc_F P d i = nc_F Q d i
  | 0, _, _ => rfl
  | d + 1, i, h => by rw [nc_F, nc_F, h i (by omega) (by omega), nc_congr d (i + 1) (fun k h1 h2 => h k (by omega) (by omega))]
theorem nc_add {P : Nat → Bool} : ∀ d e i, nc_F P (d + e) i = nc_F P d i + nc_F P e (i + d)
  | 0, e, i => by rw [Nat.zero_add, nc_F, Nat.zero_add, Nat.add_zero]
  | d + 1, e, i => by rw [show d + 1 + e = d + e + 1 by omega, nc_F, nc_F, nc_add d e (i + 1), show i + 1 + d = i + (d + 1) by omega]; omega
theorem nc_zero {P : Nat → Bool} : ∀ d i, (∀ k, i ≤ k → k < i + d → P k = false) → nc_F P d i = 0
  | 0, _, _ => rfl
  | d + 1, i, h => by rw [nc_F, h i (by omega) (by omega), nc_zero d (i + 1) (fun k h1 h2 => h k (by omega) (by omega))]; rfl
theorem nc_le {P : Nat → Bool} : ∀ d i, nc_F P d i ≤ d
  | 0, _ => Nat.le_refl _
  | d + 1, i => by
    have := nc_le (P := P) d (i + 1)
    rw [nc_F]
    split <;> omega
theorem nc_mono {P Q : Nat → Bool} : ∀ d i, (∀ k, i ≤ k → k < i + d → P k = true → Q k = true) → nc_F P d i ≤ nc_F Q d i
  | 0, _, _ => Nat.le_refl _
  | d + 1, i, h => by
    have := nc_mono d (i + 1) (fun k h1 h2 => h k (by omega) (by omega))
    have h0 := h i (by omega) (by omega)
    rw [nc_F, nc_F]
    by_cases c : P i = true
    · rw [if_pos c, if_pos (h0 c)]; omega
    · rw [if_neg c]; omega
/-- one more -/
theorem nc_one {P Q : Nat → Bool} {p : Nat} : ∀ d i, i ≤ p → p < i + d → P p = false → (∀ k, i ≤ k → k < i + d → Q k = (P k || decide (k = p))) → nc_F Q d i = nc_F P d i + 1
  | 0, i, h1, h2, _, _ => by omega
  | d + 1, i, h1, h2, h3, h4 => by
    rw [nc_F, nc_F, h4 i (by omega) (by omega)]
    by_cases c : i = p
    · subst c
      rw [h3, nc_congr (P := Q) (Q := P) d (i + 1) (fun k q1 q2 => by rw [h4 k (by omega) (by omega), decide_eq_false (show ¬ k = i by omega), Bool.or_false])]
      simp
      omega
    · rw [nc_one (P := P) (Q := Q) d (i + 1) (by omega) (by omega) h3 (fun k q1 q2 => h4 k (by omega) (by omega)), decide_eq_false c, Bool.or_false]
      omega
theorem nc_up {P : Nat → Bool} {n : Nat} (hn : n ≤ 8) : nc_F (fun k => decide (tl k ≤ n) && P k) 236 0 = nc_F P (cu n) 0 := by
  have h := (cu_le n (by omega)).1
  have e := nc_add (P := fun k => decide (tl k ≤ n) && P k) (cu n) (236 - cu n) 0
  rw [show cu n + (236 - cu n) = 236 by omega] at e
  rw [e, nc_zero (236 - cu n) _ (fun k h1 h2 => ?_), Nat.add_zero, nc_congr (cu n) 0 (fun k h1 h2 => ?_)]
  · rw [decide_eq_true ((tf_u hn (by omega)).mpr (by omega)), Bool.true_and]
  · rw [decide_eq_false (fun q => ?_)]
    · rfl
    · have := (tf_u hn (by omega)).mp q
      omega
theorem nc_pairs : ∀ n, n < 9 → 1 ≤ n → nc_F (fun k => Nat.beq (tl k) n) 236 0 = cu n - cu (n - 1) := by decide +kernel
theorem cu_lt : ∀ n, n < 9 → 1 ≤ n → cu (n - 1) < cu n := by decide +kernel
def jt_A (z sz n : Nat) (A : ws_A) (S : ws_S) (F : Option (Int32 × mg_H × Nat × Nat)) (G : mg_H → Option Int32) : Prop := ∃ r w1 kc ks pa, F = some (r, w1, kc, ks) ∧ G w1 = some r ∧ ws_C z w1 (sz + kc) n A S kt_L kt_G kt_U pa ∧ ws_M z w1 n A S km_l km_s km_g ∧ kc ≤ 32 ∧ ks ≤ 2000
section TC
variable {z sz n : Nat} {w : mg_H} {A : ws_A} {S : ws_S} {pa : Option Nat} {p : Nat}
theorem ct_amountOf (hc : ws_C z w sz n A S kt_L kt_G kt_U (some p)) {m : Nat} (h1 : 1 ≤ m) (h8 : m ≤ 8) : fX0_amountOf p (nI m) w = some (nI (cu m - cu (m - 1))) := by
  obtain ⟨⟨_, h0⟩, -⟩ := ct_tab hc
  unfold fX0_amountOf
  rw [wr_rc h0, ct_upTo hc h8, Option.bind_some, wr_rc h0, show nI m - 1 = nI (m - 1) from pk_sub (b := 1) h1, ct_upTo hc (by omega), Option.bind_some, pk_sub (cu_le m (by omega)).2]
theorem mt_pairsL (hm : ws_M z w n A S km_l km_s km_g) {m : Nat} (h8 : m ≤ 8) : ∀ d N k c, k + d = 236 → d < N → fX4_pairs_b18 w N (z + 4) (nI m) (nI c) (nI k) = some (nI (c + nc_F (fun k => Nat.beq (tl k) m) d k)) := by
  obtain ⟨g3, g4, g5, g6, l7, l8, l9⟩ := mt_tab hm
  intro d
  induction d with
  | zero =>
    intro N k c h1 h2
    obtain ⟨N, rfl⟩ : ∃ m, N = m + 1 := ⟨N - 1, by omega⟩
    rw [fX4_pairs_b18, g3, Option.bind_some, if_pos (nI_le (by omega) (by omega)), nc_F, Nat.add_zero]
  | succ d ih =>
    intro N k c h1 h2
    obtain ⟨N, rfl⟩ : ∃ m, N = m + 1 := ⟨N - 1, by omega⟩
    have tf := tf (show k < 236 by omega)
    rw [fX4_pairs_b18, g3, Option.bind_some, if_neg (nI_ge (by omega) (by omega)), g4, l7 k (by omega), Option.bind_some, fX4_pairs_b42, fX4_pairs_b42, show nI k + 1 = nI (k + 1) from nI_1 k, show nI c + 1 = nI (c + 1) from nI_1 c, show nI c + 0 = nI c from nI_add c 0, ih N (k + 1) (c + 1) (by omega) (by omega), ih N (k + 1) c (by omega) (by omega), nu_ite (nI_eq (show tl k < 2 ^ 31 by omega) (show m < 2 ^ 31 by omega)), nc_F, nu_beq]
    by_cases e : tl k = m
    · rw [if_pos e, decide_eq_true e, if_pos rfl, Nat.add_assoc]
    · rw [if_neg e, decide_eq_false e, if_neg (by decide), Nat.zero_add]
theorem mt_pairs (hm : ws_M z w n A S km_l km_s km_g) {m : Nat} (h1 : 1 ≤ m) (h8 : m ≤ 8) : fX4_pairs (z + 4) (nI m) w = some (nI (cu m - cu (m - 1))) := by
  unfold fX4_pairs
  rw [st_inI (x := nI m) (A := 1) (B := 8) (a := 1) (b := 8) rfl rfl, Option.bind_some, nu_sel, if_pos (by rw [nI_toInt (by omega)]; omega)]
  have := mt_pairsL hm h8 236 mg_N 0 0 (by omega) (by unfold mg_N; omega)
  rw [Nat.zero_add, nc_pairs m (by omega) h1, show nI 0 = (0 : Int32) from nI_0] at this
  exact this
theorem mt_firstL (hm : ws_M z w n A S km_l km_s km_g) {m : Nat} (h1 : 1 ≤ m) (h8 : m ≤ 8) : ∀ d N k, k + d = cu (m - 1) → d < N → fX4_firstOf_b2 w N (z + 4) (nI m) (nI k) = some (nI (cu (m - 1))) := by
  obtain ⟨g3, g4, g5, g6, l7, l8, l9⟩ := mt_tab hm
  have hlt := cu_lt m (by omega) h1
  have hle := (cu_le m (by omega)).1
  intro d
  induction d with
  | zero =>
    intro N k h2 h3
    obtain ⟨N, rfl⟩ : ∃ m, N = m + 1 := ⟨N - 1, by omega⟩
    have hk : k = cu (m - 1) := by omega
    subst hk
    have tf := tf (show cu (m - 1) < 236 by omega)
    have : ¬ tl (cu (m - 1)) ≤ m - 1 := fun q => by have := (tf_u (show m - 1 ≤ 8 by omega) (by omega)).mp q; omega
    rw [fX4_firstOf_b2, g4, l7 _ (by omega), Option.bind_some, if_pos (nI_le (by omega) (by omega))]
  | succ d ih =>
    intro N k h2 h3
    obtain ⟨N, rfl⟩ : ∃ m, N = m + 1 := ⟨N - 1, by omega⟩
    have tf := tf (show k < 236 by omega)
    have : tl k ≤ m - 1 := (tf_u (show m - 1 ≤ 8 by omega) (by omega)).mpr (by omega)
    rw [fX4_firstOf_b2, g4, l7 _ (by omega), Option.bind_some, if_neg (nI_ge (by omega) (by omega)), show nI k + 1 = nI (k + 1) from nI_1 k]
    exact ih N (k + 1) (by omega) (by omega)
theorem mt_first (hm : ws_M z w n A S km_l km_s km_g) {m : Nat} (h1 : 1 ≤ m) (h8 : m ≤ 8) : fX4_firstOf (z + 4) (nI m) w = some (nI (cu (m - 1))) := by
  have := (cu_le (m - 1) (by omega)).1
  exact mt_firstL hm h1 h8 (cu (m - 1)) mg_N 0 (by omega) (by unfold mg_N; omega)
theorem ct_digits (hc : ws_C z w sz n A S kt_L kt_G kt_U (some p)) {k : Nat} (hk : k < 236) (x : Int32) : fX0_digitsOf p (nI k) x (nI (tl k)) w = some (if x = 0 then nI (ts k) else nI (tg k)) := by
  obtain ⟨⟨_, h0⟩, g3, g0, g1, g2, l1, l2, l3, len⟩ := ct_tab hc
  have tf := tf hk
  have hb := tG_lt hk
  have hw := tw_bnd hk
  have ht := tt_pos hk
  have htl : tt k < 2 ^ 31 := by
    have : tt k ≤ 21082635 := Nat.div_le_self _ _
    omega
  have ho : fX3_over 21082635 (lN (tw k)) = some (lN (tt k)) := st_over (a := 21082635) (by omega) (by omega) (by omega)
  have key : ∀ x, x * tt k < 2 ^ 31 → fX0_digitsOf_b31 w (nI (tl k)) (nI (x * tt k)).toInt64 = some (nI x) := by
    intro x hx
    unfold fX0_digitsOf_b31
    rw [st_ones (tl k) (by omega), Option.bind_some, show nI (2 ^ tl k - 1) = nI (tw k) from rfl, nI_l (by omega), ho, Option.bind_some, nI_l hx, st_over (by omega) ht (by omega), Option.bind_some, nu_i2n, Nat.mul_div_cancel _ ht]
  unfold fX0_digitsOf
  rw [wr_rc h0, ct_made hc hk, Option.bind_some, if_neg (by decide), g0, g1, l1 k hk, l2 k hk, Option.bind_some, Option.bind_some, show tL k = ts k * tt k from rfl, show tG k = tg k * tt k from rfl, key _ (show tL k < 2 ^ 31 by omega), key _ (show tG k < 2 ^ 31 by omega)]
  split <;> rfl
theorem j_pairs (hc : ws_C z w sz n A S kt_L kt_G kt_U pa) (hm : ws_M z w n A S km_l km_s km_g) (x1 : Int32) : jt_A z sz n A S (fX3_pairs z x1 w sz) (fX4_pairs (z + 4) x1) := by
  obtain ⟨_, hz⟩ := ct_z hc
  unfold fX3_pairs
  rw [st_isPairedLength, Option.bind_some, nu_sel]
  by_cases c : 1 ≤ x1.toInt ∧ x1.toInt ≤ 8
  · obtain ⟨m, h1, h8, rfl⟩ := nu_rg (a := 1) (b := 8) (by omega) c
    obtain ⟨p, w1, kc, ks, e, hc1, hf, -, b1, b2⟩ := ct_known hc
    have hm1 := ws_Mkeep hf hm
    obtain ⟨⟨_, h0⟩, -⟩ := ct_tab hc1
    rw [if_pos c, wr_rc hz, e]
    refine ⟨nI (cu m - cu (m - 1)), w1, kc, ks, some p, ?_, mt_pairs hm1 h1 h8, hc1, hm1, by omega, by omega⟩
    show mg_bmp kc ks (mg_rc w1 0 p ((fX0_amountOf p (nI m) w1).bind fun v7 => some (v7, w1, 0, 0))) = _
    rw [wr_rc h0, ct_amountOf hc1 h1 h8]
    rfl
  · rw [if_neg c]
    refine ⟨-1, w, 0, 0, pa, rfl, ?_, hc, hm, by omega, by omega⟩
    unfold fX4_pairs
    rw [st_inI (x := x1) (A := 1) (B := 8) (a := 1) (b := 8) rfl rfl, Option.bind_some, nu_sel, if_neg c]
theorem j_pair (hc : ws_C z w sz n A S kt_L kt_G kt_U pa) (hm : ws_M z w n A S km_l km_s km_g) (x1 x2 x3 : Int32) : jt_A z sz n A S (fX3_pair z x1 x2 x3 w sz) (fX4_pair (z + 4) x1 x2 x3) := by
  obtain ⟨_, hz⟩ := ct_z hc
  have hM : ∀ w', fX4_pair (z + 4) x1 x2 x3 w' = if 1 ≤ x1.toInt ∧ x1.toInt ≤ 8 then (if x2 < 0 then some (-1) else if 0 ≤ x3.toInt ∧ x3.toInt ≤ 1 then (mg_rc w' 4 (z + 4) ((fX4_pairs (z + 4) x1 w').bind fun v3 => if x2 < v3 then (mg_rc w' 4 (z + 4) ((fX4_firstOf (z + 4) x1 w').bind fun v4 => if x3 = 0 then (mg_gN w' 4 (z + 4) 5 fun v5 => (mg_ldL w' v5 (v4 + x2)).bind fun v6 => some (v6.toInt32)) else (mg_gN w' 4 (z + 4) 6 fun v7 => (mg_ldL w' v7 (v4 + x2)).bind fun v8 => some (v8.toInt32)))) else (some (-4 : Int32)))) else some (-1)) else some (-1) := by
    intro w'
    unfold fX4_pair
    rw [st_inI (x := x1) (A := 1) (B := 8) (a := 1) (b := 8) rfl rfl, Option.bind_some, nu_sel, st_inI (x := x3) (A := 0) (B := 1) (a := 0) (b := 1) rfl rfl, Option.bind_some, nu_sel]
  unfold fX3_pair
  rw [st_isPairedLength, Option.bind_some, nu_sel, st_isEither, Option.bind_some, nu_sel]
  by_cases c : 1 ≤ x1.toInt ∧ x1.toInt ≤ 8
  · rw [if_pos c]
    by_cases d : 0 ≤ x3.toInt ∧ x3.toInt ≤ 1
    · rw [if_pos d]
      by_cases f : x2 < 0
      · have : ¬ 0 ≤ x2 := fun q => by rw [Int32.lt_iff_toInt_lt] at f; rw [Int32.le_iff_toInt_le] at q; omega
        rw [if_neg this]
        exact ⟨-1, w, 0, 0, pa, rfl, by rw [hM, if_pos c, if_pos f], hc, hm, by omega, by omega⟩
      · obtain ⟨i, hi, rfl⟩ := nI_of f
        obtain ⟨m, h1, h8, rfl⟩ := nu_rg (a := 1) (b := 8) (by omega) c
        rw [if_pos (nI_pos' hi), wr_rc hz]
        obtain ⟨p, w1, kc, ks, e, hc1, hf, -, b1, b2⟩ := ct_known hc
        have hm1 := ws_Mkeep hf hm
        obtain ⟨⟨_, h0⟩, -⟩ := ct_tab hc1
        obtain ⟨_, hz4⟩ := mt_z hm1
        have hcu := cu_le m (by omega)
        rw [e]
        have hM1 := hM w1
        rw [if_pos c, if_neg f, if_pos d, wr_rc hz4, mt_pairs hm1 h1 h8, Option.bind_some] at hM1
        have red : ∀ r, (mg_rc w1 0 p ((fX0_amountOf p (nI m) w1).bind fun v8 => if nI i < v8 then (mg_rc w1 0 p ((fX0_amountUpTo p (nI m - (1 : Int32)) w1).bind fun v9 => mg_rc w1 0 p ((fX0_digitsOf p (v9 + nI i) x3 (nI m) w1).bind fun v10 => some (v10, w1, 0, 0)))) else (some ((-4 : Int32), w1, 0, 0)))) = some (r, w1, 0, 0) → (mg_bA (some (some p, w1, kc, ks)) fun v3 w4 kc5 ks6 => mg_nn v3 fun a7 => mg_rc w4 0 a7 ((fX0_amountOf a7 (nI m) w4).bind fun v8 => if nI i < v8 then (mg_rc w4 0 a7 ((fX0_amountUpTo a7 (nI m - (1 : Int32)) w4).bind fun v9 => mg_rc w4 0 a7 ((fX0_digitsOf a7 (v9 + nI i) x3 (nI m) w4).bind fun v10 => some (v10, w4, 0, 0)))) else (some ((-4 : Int32), w4, 0, 0)))) = some (r, w1, kc, ks) := by
          intro r h
          show mg_bmp kc ks _ = _
          exact (congrArg (mg_bmp kc ks) h).trans rfl
        by_cases g : i < cu m - cu (m - 1)
        · have hk : cu (m - 1) + i < 236 := by omega
          have htl : tl (cu (m - 1) + i) = m := by
            have q1 := (tf_u h8 hk).mpr (by omega)
            have q2 : ¬ tl (cu (m - 1) + i) ≤ m - 1 := fun q => by have := (tf_u (show m - 1 ≤ 8 by omega) hk).mp q; omega
            omega
          obtain ⟨g3, g4, g5, g6, l7, l8, l9⟩ := mt_tab hm1
          refine ⟨if x3 = 0 then nI (ts (cu (m - 1) + i)) else nI (tg (cu (m - 1) + i)), w1, kc, ks, some p, red _ ?_, ?_, hc1, hm1, by omega, by omega⟩
          · rw [wr_rc h0, ct_amountOf hc1 h1 h8, Option.bind_some, if_pos (nI_lt g (by omega)), wr_rc h0, show nI m - 1 = nI (m - 1) from pk_sub (b := 1) h1, ct_upTo hc1 (by omega), Option.bind_some, wr_rc h0, nI_add]
            have := ct_digits hc1 hk x3
            rw [htl] at this
            rw [this]
            rfl
          · rw [hM1, if_pos (nI_lt g (by omega)), wr_rc hz4, mt_first hm1 h1 h8, Option.bind_some, g5, g6, nI_add, l8 _ hk, l9 _ hk, Option.bind_some, Option.bind_some, nu_i2n, nu_i2n]
            split <;> rfl
        · refine ⟨-4, w1, kc, ks, some p, red _ ?_, ?_, hc1, hm1, by omega, by omega⟩
          · rw [wr_rc h0, ct_amountOf hc1 h1 h8, Option.bind_some, if_neg (nI_nlt (by omega) (by omega))]
          · rw [hM1, if_neg (nI_nlt (by omega) (by omega))]
    · rw [if_neg d]
      refine ⟨-1, w, 0, 0, pa, rfl, ?_, hc, hm, by omega, by omega⟩
      rw [hM, if_pos c, if_neg d]
      split <;> rfl
  · rw [if_neg c]
    exact ⟨-1, w, 0, 0, pa, rfl, by rw [hM, if_neg c], hc, hm, by omega, by omega⟩
end TC
