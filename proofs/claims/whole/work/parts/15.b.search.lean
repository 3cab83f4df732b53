/-! the model's search for the PAIRS -/
def fp_W (w0 : mg_H) (z : Nat) (w : mg_H) (T : List (Nat × Nat × Nat)) (h : Nat → Bool) : Prop := ∃ (gl : Nat → Int32) (gs gg : Nat → Int64) (fh : Nat → Int32),
  w (z + 4) = some (.inl (4, [.int (nI 0), .ref (z + 5), .ref (z + 6), .int (nI T.length), .ref (z + 7), .ref (z + 8), .ref (z + 9), .ref (z + 10), .ref (z + 11), .ref (z + 12), .ref (z + 13)])) ∧
  w (z + 7) = some (.inr (0, 240, .inl gl)) ∧ w (z + 8) = some (.inr (2, 240, .inr (.inl gs))) ∧ w (z + 9) = some (.inr (2, 240, .inr (.inl gg))) ∧ w (z + 10) = some (.inr (1, 256, .inl fh)) ∧
  T.length ≤ 240 ∧ (∀ k t, T[k]? = some t → gl k = nI t.1 ∧ gs k = lN t.2.1 ∧ gg k = lN t.2.2 ∧ 1 ≤ t.1 ∧ t.1 ≤ 8 ∧ t.2.1 < 256 ∧ t.2.2 < 256) ∧
  (∀ k, k < 256 → fh k = if h k = true then 1 else 0) ∧ ∀ a, a ≠ z + 4 → a ≠ z + 7 → a ≠ z + 8 → a ≠ z + 9 → a ≠ z + 10 → w a = w0 a
theorem nu_blt (x y : Nat) : Nat.blt x y = decide (x < y) := by
  by_cases c : x < y
  · rw [decide_eq_true c]; exact Nat.blt_eq.mpr c
  · rw [decide_eq_false c]
    cases h : Nat.blt x y with
    | false => rfl
    | true => exact absurd (Nat.blt_eq.mp h) c
theorem nu_ble (x y : Nat) : Nat.ble x y = decide (x ≤ y) := by
  by_cases c : x ≤ y
  · rw [decide_eq_true c]; exact Nat.ble_eq.mpr c
  · rw [decide_eq_false c]
    cases h : Nat.ble x y with
    | false => rfl
    | true => exact absurd (Nat.ble_eq.mp h) c
theorem nu_beq (x y : Nat) : Nat.beq x y = decide (x = y) := by
  by_cases c : x = y
  · rw [decide_eq_true c]; exact Nat.beq_eq.mpr c
  · rw [decide_eq_false c]
    cases h : Nat.beq x y with
    | false => rfl
    | true => exact absurd (Nat.beq_eq.mp h) c
theorem nu_pw8 {n : Nat} (h1 : 1 ≤ n) (h8 : n ≤ 8) : 1 ≤ 2 ^ n - 1 ∧ 2 ^ n - 1 ≤ 255 := by
  have a : 2 ^ 1 ≤ 2 ^ n := Nat.pow_le_pow_right (by omega) h1
  have b : 2 ^ n ≤ 2 ^ 8 := Nat.pow_le_pow_right (by omega) h8
  omega
theorem nu_m8 {a b : Nat} (ha : a < 256) (hb : b ≤ 255) : a * b < 2 ^ 63 := by
  have := nu_mul (a := a) (b := b) (by omega) (by omega)
  omega
section FP
variable {w0 w : mg_H} {z : Nat} {T : List (Nat × Nat × Nat)} {h : Nat → Bool}
theorem fp_crL (hW : fp_W w0 z w T h) {n a b : Nat} (hn : 1 ≤ n) (hn8 : n ≤ 8) (ha : a < 256) (hb : b < 256) : ∀ d N p, p + d = T.length → d + 1 < N → fX4_crosses_b6 w N (z + 4) (nI n) (lN a) (lN b) 0 (nI p) = some (if (T.drop p).any (fp_cr n a b) = true then 1 else 0) := by
  obtain ⟨gl, gs, gg, fh, h4, h7, h8, h9, h10, hT, hk, -⟩ := hW
  have g3 : mg_gI w 4 (z + 4) 3 = some (nI T.length) := wr_gI h4 rfl
  intro d
  induction d with
  | zero =>
    intro N p h1 h2
    obtain ⟨N, rfl⟩ : ∃ m, N = m + 1 := ⟨N - 1, by omega⟩
    rw [fX4_crosses_b6, g3, Option.bind_some, if_pos (nI_le (by omega) (by omega)), List.drop_eq_nil_of_le (by omega)]
    rfl
  | succ d ih =>
    intro N p h1 h2
    obtain ⟨N, rfl⟩ : ∃ m, N = m + 2 := ⟨N - 2, by omega⟩
    have hp : p < T.length := by omega
    obtain ⟨e1, e2, e3, b1, b2, b3, b4⟩ := hk p T[p] (List.getElem?_eq_getElem hp)
    rw [List.drop_eq_getElem_cons hp, List.any_cons]
    generalize T[p] = t at *
    have g4 : ∀ {ρ : Type} (K : Nat → Option ρ), mg_gN w 4 (z + 4) 4 K = K (z + 7) := fun K => wr_gN h4 rfl
    have g5 : ∀ {ρ : Type} (K : Nat → Option ρ), mg_gN w 4 (z + 4) 5 K = K (z + 8) := fun K => wr_gN h4 rfl
    have g6 : ∀ {ρ : Type} (K : Nat → Option ρ), mg_gN w 4 (z + 4) 6 K = K (z + 9) := fun K => wr_gN h4 rfl
    have l7 : mg_ldI w 0 (z + 7) (nI p) = some (nI t.1) := by rw [wr_ldI h7 (by omega) (by omega), e1]
    have l8 : mg_ldL w (z + 8) (nI p) = some (lN t.2.1) := by rw [wr_ldL h8 (by omega) (by omega), e2]
    have l9 : mg_ldL w (z + 9) (nI p) = some (lN t.2.2) := by rw [wr_ldL h9 (by omega) (by omega), e3]
    have o1 := nu_pw8 hn hn8
    have o2 := nu_pw8 b1 b2
    have ia := ih (N + 1) (p + 1) (by omega) (by omega)
    have ib : fX4_crosses_b6 w (N + 1) (z + 4) (nI n) (lN a) (lN b) 1 (nI (p + 1)) = some 1 := by
      rw [fX4_crosses_b6, g3, Option.bind_some]
      by_cases c : nI T.length ≤ nI (p + 1)
      · rw [if_pos c]; rfl
      · rw [if_neg c, if_neg (by decide)]; rfl
    have hcr : fp_cr n a b t = ((decide (a * (2 ^ t.1 - 1) < t.2.1 * (2 ^ n - 1)) && decide (t.2.1 * (2 ^ n - 1) < b * (2 ^ t.1 - 1))) != (decide (a * (2 ^ t.1 - 1) < t.2.2 * (2 ^ n - 1)) && decide (t.2.2 * (2 ^ n - 1) < b * (2 ^ t.1 - 1)))) := by
      unfold fp_cr
      rw [nu_blt, nu_blt, nu_blt, nu_blt]
    rw [hcr]
    rw [fX4_crosses_b6]
    simp only [g3, g4, g5, g6, l7, l8, l9, Option.bind_some, st_whole n (by omega), st_whole t.1 (by omega), fX4_crosses_b77, fX4_crosses_b78, fX4_crosses_b125, fX4_crosses_b126, fX4_crosses_b140, show nI p + 1 = nI (p + 1) from nI_1 p, st_below (nu_m8 ha o2.2) (nu_m8 b3 o1.2), st_below (nu_m8 ha o2.2) (nu_m8 b4 o1.2), st_below (nu_m8 b3 o1.2) (nu_m8 hb o2.2), st_below (nu_m8 b4 o1.2) (nu_m8 hb o2.2), nu_sel]
    rw [if_neg (nI_ge hp (by omega))]
    simp only [if_true, ia, ib]
    clear hcr ia ib g3 g4 g5 g6 l7 l8 l9 ih
    generalize a * (2 ^ t.1 - 1) = X1
    generalize t.2.1 * (2 ^ n - 1) = X2
    generalize t.2.2 * (2 ^ n - 1) = X3
    generalize b * (2 ^ t.1 - 1) = X4
    generalize (List.drop (p + 1) T).any (fp_cr n a b) = B
    by_cases c1 : X1 < X2 <;> by_cases c2 : X2 < X4 <;> by_cases c3 : X1 < X3 <;> by_cases c4 : X3 < X4 <;> simp only [c1, c2, c3, c4, if_true, if_false, decide_true, decide_false] <;> cases B <;> rfl
theorem fp_crs (hW : fp_W w0 z w T h) {n a b : Nat} (hn : 1 ≤ n) (hn8 : n ≤ 8) (ha : a < 256) (hb : b < 256) : fX4_crosses (z + 4) (nI n) (lN a) (lN b) w = some (if T.any (fp_cr n a b) = true then 1 else 0) := by
  have hT : T.length ≤ 240 := by
    obtain ⟨gl, gs, gg, fh, h4, h7, h8, h9, h10, hT, hk, -⟩ := hW
    exact hT
  exact fp_crL hW hn hn8 ha hb T.length mg_N 0 (by omega) (by unfold mg_N; omega)
theorem fp_pairs0 (hW : fp_W w0 z w T h) {n a b : Nat} (hn : 1 ≤ n) (hn8 : n ≤ 8) (ha : a < 256) (hb : b < 256) (hT : T.length < 240) : ∃ w', fX4_pairs0 (z + 4) (nI n) (lN a) (lN b) w = some ((), w') ∧ fp_W w0 z w' (T ++ [(n, a, b)]) h := by
  obtain ⟨gl, gs, gg, fh, h4, h7, h8, h9, h10, -, hk, hh, hf⟩ := hW
  unfold fX4_pairs0
  rw [wr_gN h4 rfl, wr_gI h4 rfl, Option.bind_some, wr_stI h7 hT (by omega), Option.bind_some]
  have a4 : mg_set w (z + 7) (.inr (0, 240, .inl (upd gl T.length (nI n)))) (z + 4) = _ := (wr_ne (by omega)).trans h4
  have a8 : mg_set w (z + 7) (.inr (0, 240, .inl (upd gl T.length (nI n)))) (z + 8) = _ := (wr_ne (by omega)).trans h8
  have a9 : mg_set w (z + 7) (.inr (0, 240, .inl (upd gl T.length (nI n)))) (z + 9) = _ := (wr_ne (by omega)).trans h9
  have a10 : mg_set w (z + 7) (.inr (0, 240, .inl (upd gl T.length (nI n)))) (z + 10) = _ := (wr_ne (by omega)).trans h10
  have a7 := wr_set w (z + 7) (.inr (0, 240, .inl (upd gl T.length (nI n))))
  have af : ∀ a, a ≠ z + 4 → a ≠ z + 7 → a ≠ z + 8 → a ≠ z + 9 → a ≠ z + 10 → mg_set w (z + 7) (.inr (0, 240, .inl (upd gl T.length (nI n)))) a = w0 a := fun a q1 q2 q3 q4 q5 => (wr_ne q2).trans (hf a q1 q2 q3 q4 q5)
  generalize mg_set w (z + 7) (.inr (0, 240, .inl (upd gl T.length (nI n)))) = w1 at *
  rw [wr_gN a4 rfl, wr_gI a4 rfl, Option.bind_some, wr_stL a8 hT (by omega), Option.bind_some]
  have b4 : mg_set w1 (z + 8) (.inr (2, 240, .inr (.inl (vp_updL gs T.length (lN a))))) (z + 4) = _ := (wr_ne (by omega)).trans a4
  have b7 : mg_set w1 (z + 8) (.inr (2, 240, .inr (.inl (vp_updL gs T.length (lN a))))) (z + 7) = _ := (wr_ne (by omega)).trans a7
  have b9 : mg_set w1 (z + 8) (.inr (2, 240, .inr (.inl (vp_updL gs T.length (lN a))))) (z + 9) = _ := (wr_ne (by omega)).trans a9
  have b10 : mg_set w1 (z + 8) (.inr (2, 240, .inr (.inl (vp_updL gs T.length (lN a))))) (z + 10) = _ := (wr_ne (by omega)).trans a10
  have b8 := wr_set w1 (z + 8) (.inr (2, 240, .inr (.inl (vp_updL gs T.length (lN a)))))
  have bf : ∀ c, c ≠ z + 4 → c ≠ z + 7 → c ≠ z + 8 → c ≠ z + 9 → c ≠ z + 10 → mg_set w1 (z + 8) (.inr (2, 240, .inr (.inl (vp_updL gs T.length (lN a))))) c = w0 c := fun a q1 q2 q3 q4 q5 => (wr_ne q3).trans (af a q1 q2 q3 q4 q5)
  generalize mg_set w1 (z + 8) (.inr (2, 240, .inr (.inl (vp_updL gs T.length (lN a))))) = w2 at *
  rw [wr_gN b4 rfl, wr_gI b4 rfl, Option.bind_some, wr_stL b9 hT (by omega), Option.bind_some]
  have c4 : mg_set w2 (z + 9) (.inr (2, 240, .inr (.inl (vp_updL gg T.length (lN b))))) (z + 4) = _ := (wr_ne (by omega)).trans b4
  have c7 : mg_set w2 (z + 9) (.inr (2, 240, .inr (.inl (vp_updL gg T.length (lN b))))) (z + 7) = _ := (wr_ne (by omega)).trans b7
  have c8 : mg_set w2 (z + 9) (.inr (2, 240, .inr (.inl (vp_updL gg T.length (lN b))))) (z + 8) = _ := (wr_ne (by omega)).trans b8
  have c10 : mg_set w2 (z + 9) (.inr (2, 240, .inr (.inl (vp_updL gg T.length (lN b))))) (z + 10) = _ := (wr_ne (by omega)).trans b10
  have c9 := wr_set w2 (z + 9) (.inr (2, 240, .inr (.inl (vp_updL gg T.length (lN b)))))
  have cf : ∀ c, c ≠ z + 4 → c ≠ z + 7 → c ≠ z + 8 → c ≠ z + 9 → c ≠ z + 10 → mg_set w2 (z + 9) (.inr (2, 240, .inr (.inl (vp_updL gg T.length (lN b))))) c = w0 c := fun a q1 q2 q3 q4 q5 => (wr_ne q4).trans (bf a q1 q2 q3 q4 q5)
  generalize mg_set w2 (z + 9) (.inr (2, 240, .inr (.inl (vp_updL gg T.length (lN b))))) = w3 at *
  rw [wr_gI c4 rfl, Option.bind_some, wr_pI c4 (Nat.le_of_ble_eq_true rfl), Option.bind_some]
  refine ⟨_, rfl, upd gl T.length (nI n), vp_updL gs T.length (lN a), vp_updL gg T.length (lN b), fh, ?_, (wr_ne (by omega)).trans c7, (wr_ne (by omega)).trans c8, (wr_ne (by omega)).trans c9, (wr_ne (by omega)).trans c10, ?_, ?_, hh, fun a q1 q2 q3 q4 q5 => (wr_ne q1).trans (cf a q1 q2 q3 q4 q5)⟩
  · rw [wr_set, List.length_append, show nI T.length + 1 = nI (T.length + 1) from nI_1 _]
    rfl
  · rw [List.length_append]; exact hT
  · intro k t ht
    by_cases c : k < T.length
    · rw [List.getElem?_append_left c] at ht
      obtain ⟨e1, e2, e3, r⟩ := hk k t ht
      have hne : ¬ k = T.length := by omega
      refine ⟨?_, ?_, ?_, r⟩
      · rw [← e1]; simp [upd, hne]
      · rw [← e2]; simp [vp_updL, hne]
      · rw [← e3]; simp [vp_updL, hne]
    · rw [List.getElem?_append_right (by omega)] at ht
      have hk0 : k = T.length := by
        by_cases q : k = T.length
        · exact q
        · rw [List.getElem?_eq_none (by simp; omega)] at ht; cases ht
      subst hk0
      rw [Nat.sub_self] at ht
      have ht : some (n, a, b) = some t := ht
      cases ht
      exact ⟨by simp [upd], by simp [vp_updL], by simp [vp_updL], hn, hn8, ha, hb⟩
/-- one more of the flags -/
theorem fp_flag (hW : fp_W w0 z w T h) {k : Nat} (hk : k < 256) (v : Bool) : ∃ w', mg_stZ w (z + 10) (nI k) (if v = true then 1 else 0) = some w' ∧ fp_W w0 z w' T (fun i => if i = k then v else h i) := by
  obtain ⟨gl, gs, gg, fh, h4, h7, h8, h9, h10, hT, ht, hh, hf⟩ := hW
  rw [wr_stZ h10 hk (by omega)]
  refine ⟨_, rfl, gl, gs, gg, _, (wr_ne (by omega)).trans h4, (wr_ne (by omega)).trans h7, (wr_ne (by omega)).trans h8, (wr_ne (by omega)).trans h9, wr_set _ _ _, hT, ht, ?_, fun a q1 q2 q3 q4 q5 => (wr_ne q5).trans (hf a q1 q2 q3 q4 q5)⟩
  intro i hi
  by_cases c : i = k
  · subst c
    cases v <;> simp [upd] <;> rfl
  · simp [upd, c, hh i hi]
theorem fp_gN (hW : fp_W w0 z w T h) : (∃ fs, w (z + 4) = some (.inl (4, fs))) ∧ (∀ {ρ : Type} (K : Nat → Option ρ), mg_gN w 4 (z + 4) 7 K = K (z + 10)) ∧ ∀ k, k < 256 → mg_ldI w 1 (z + 10) (nI k) = some (if h k = true then 1 else 0) := by
  obtain ⟨gl, gs, gg, fh, h4, h7, h8, h9, h10, hT, ht, hh, hf⟩ := hW
  exact ⟨⟨_, h4⟩, fun K => wr_gN h4 rfl, fun k hk => by rw [wr_ldI h10 hk (by omega), hh k hk]⟩
theorem fp_congr (hW : fp_W w0 z w T h) {h' : Nat → Bool} (e : ∀ k, k < 256 → h' k = h k) : fp_W w0 z w T h' := by
  obtain ⟨gl, gs, gg, fh, h4, h7, h8, h9, h10, hT, ht, hh, hf⟩ := hW
  exact ⟨gl, gs, gg, fh, h4, h7, h8, h9, h10, hT, ht, fun k hk => by rw [e k hk]; exact hh k hk, hf⟩
theorem fp_bL (r9 : Nat → Int32 → mg_H → Option (Unit × mg_H)) (r67 : Nat → Int32 → Int32 → mg_H → Option (Unit × mg_H)) {m : Nat} (hW : fp_W w0 z w T m.testBit) {n a b' : Nat} (hn : 1 ≤ n) (hn8 : n ≤ 8) (ha : a < 256) : ∀ k N b, b + k ≤ 256 → k < N → fp_b n a m T k b = some b' → fX4_findPairs_b90 r9 r67 N (z + 4) (nI n) (nI a) (nI b) w = fX4_findPairs_b117 r9 r67 (z + 4) (nI n) (nI a) (nI b') w ∧ b' < 256 := by
  obtain ⟨⟨_, hz⟩, g7, hl⟩ := fp_gN hW
  intro k
  induction k with
  | zero => intro N b h1 h2 h3; cases h3
  | succ k ih =>
    intro N b h1 h2 h3
    obtain ⟨N, rfl⟩ : ∃ m, N = m + 1 := ⟨N - 1, by omega⟩
    rw [fp_b] at h3
    rw [fX4_findPairs_b90, g7, hl b (by omega), Option.bind_some, wr_rc hz, nI_l (show a < 2 ^ 31 by omega), nI_l (show b < 2 ^ 31 by omega), fp_crs hW hn hn8 ha (by omega), Option.bind_some, nu_sel, nu_sel]
    by_cases c : (m.testBit b || T.any (fp_cr n a b)) = true
    · rw [if_pos c] at h3
      obtain ⟨i1, i2⟩ := ih N (b + 1) (by omega) (by omega) h3
      rw [fX4_findPairs_b111, show nI b + 1 = nI (b + 1) from nI_1 b, i1]
      refine ⟨?_, i2⟩
      by_cases c1 : m.testBit b = true
      · rw [if_pos c1]
      · rw [if_neg c1]
        have : T.any (fp_cr n a b) = true := by
          rw [Bool.or_eq_true] at c
          exact c.resolve_left c1
        rw [if_pos this]
    · rw [if_neg c] at h3
      cases h3
      rw [Bool.or_eq_true] at c
      rw [if_neg (fun q => c (Or.inl q)), if_neg (fun q => c (Or.inr q))]
      exact ⟨rfl, by omega⟩
theorem fp_join (r9 : Nat → Int32 → mg_H → Option (Unit × mg_H)) (r67 : Nat → Int32 → Int32 → mg_H → Option (Unit × mg_H)) {m : Nat} (hW : fp_W w0 z w T m.testBit) {n a b : Nat} (hn : 1 ≤ n) (hn8 : n ≤ 8) (ha : a < 256) (hb : b < 256) (hT : T.length < 240) : ∃ w', fX4_findPairs_b117 r9 r67 (z + 4) (nI n) (nI a) (nI b) w = r67 (z + 4) (nI n) (nI (a + 1)) w' ∧ fp_W w0 z w' (T ++ [(n, a, b)]) (m ||| 2 ^ a ||| 2 ^ b).testBit := by
  obtain ⟨⟨_, hz⟩, g7, hl⟩ := fp_gN hW
  obtain ⟨w1, e1, h1⟩ := fp_flag hW ha true
  obtain ⟨-, g7', -⟩ := fp_gN h1
  obtain ⟨w2, e2, h2⟩ := fp_flag h1 hb true
  obtain ⟨⟨_, hz2⟩, -, -⟩ := fp_gN h2
  obtain ⟨w3, e3, h3⟩ := fp_pairs0 h2 hn hn8 ha hb hT
  refine ⟨w3, ?_, fp_congr h3 fun k hk => ?_⟩
  · unfold fX4_findPairs_b117
    rw [g7]
    have e1 : mg_stZ w (z + 10) (nI a) 1 = some w1 := e1
    have e2 : mg_stZ w1 (z + 10) (nI b) 1 = some w2 := e2
    rw [e1, Option.bind_some, g7', e2, Option.bind_some, wr_rc hz2, nI_l (show a < 2 ^ 31 by omega), nI_l (show b < 2 ^ 31 by omega), e3]
    show fX4_findPairs_b140 r9 r67 (z + 4) (nI n) (nI a) w3 = _
    unfold fX4_findPairs_b140
    rw [show nI a + 1 = nI (a + 1) from nI_1 a]
  · rw [fp_bit, fp_bit]
    by_cases c1 : k = b <;> by_cases c2 : k = a <;> simp [c1, c2]
theorem fp_aL (r9 : Nat → Int32 → mg_H → Option (Unit × mg_H)) {n : Nat} (hn : 1 ≤ n) (hn8 : n ≤ 8) {T' : List (Nat × Nat × Nat)} : ∀ k N a (w : mg_H) (m : Nat) (T : List (Nat × Nat × Nat)), fp_W w0 z w T m.testBit → a + k = 2 ^ n - 1 → k < N → fp_a n k a m T = some T' → ∃ w' m', fX4_findPairs_b67 r9 N (z + 4) (nI n) (nI a) w = r9 (z + 4) (nI (n + 1)) w' ∧ fp_W w0 z w' T' m' := by
  have o1 := nu_pw8 hn hn8
  intro k
  induction k with
  | zero =>
    intro N a w m T hW h1 h2 h3
    obtain ⟨N, rfl⟩ : ∃ m, N = m + 1 := ⟨N - 1, by omega⟩
    cases h3
    refine ⟨w, _, ?_, hW⟩
    rw [fX4_findPairs_b67, st_whole n (by omega), Option.bind_some, nI_l (show a < 2 ^ 31 by omega)]
    rw [if_pos (by rw [lg_cmp_ge]; exact (pk_lLE (by omega) (by omega)).mpr (by omega)), fX4_findPairs_b146, show nI n + 1 = nI (n + 1) from nI_1 n]
  | succ k ih =>
    intro N a w m T hW h1 h2 h3
    obtain ⟨N, rfl⟩ : ∃ m, N = m + 1 := ⟨N - 1, by omega⟩
    obtain ⟨⟨_, hz⟩, g7, hl⟩ := fp_gN hW
    rw [fp_a] at h3
    rw [fX4_findPairs_b67, st_whole n (by omega), Option.bind_some, nI_l (show a < 2 ^ 31 by omega)]
    rw [if_neg (by rw [lg_cmp_ge]; exact fun q => by have := (pk_lLE (by omega) (by omega)).mp q; omega), g7, hl a (by omega), Option.bind_some, nu_sel]
    by_cases c : m.testBit a = true
    · rw [if_pos c] at h3
      rw [if_pos c, fX4_findPairs_b140, show nI a + 1 = nI (a + 1) from nI_1 a]
      exact ih N (a + 1) w m T hW (by omega) (by omega) h3
    · rw [if_neg c] at h3
      rw [if_neg c]
      by_cases d : T.length < 240
      · rw [if_pos d] at h3
        cases e : fp_b n a m T (255 - a) (a + 1) with
        | none => rw [e] at h3; cases h3
        | some b =>
          rw [e, Option.bind_some] at h3
          obtain ⟨i1, i2⟩ := fp_bL r9 (fX4_findPairs_b67 r9 N) hW hn hn8 (by omega) (255 - a) mg_N (a + 1) (by omega) (by unfold mg_N; omega) e
          obtain ⟨w1, j1, j2⟩ := fp_join r9 (fX4_findPairs_b67 r9 N) hW hn hn8 (show a < 256 by omega) i2 d
          rw [show nI a + 1 = nI (a + 1) from nI_1 a, i1, j1]
          exact ih N (a + 1) w1 _ _ j2 (by omega) (by omega) h3
      · rw [if_neg d] at h3; cases h3
theorem fp_isOf {n k : Nat} (hn : 1 ≤ n) (hn8 : n ≤ 8) (hk : k < 256) : fX4_isOfLength (lN k) (nI n) = some (if nt_L ((2 ^ n - 1) / Nat.gcd k (2 ^ n - 1)) = n then 1 else 0) := by
  have o1 := nu_pw8 hn hn8
  have hg : 0 < Nat.gcd k (2 ^ n - 1) := Nat.gcd_pos_of_pos_right _ (by omega)
  have hgl : Nat.gcd k (2 ^ n - 1) ≤ 2 ^ n - 1 := Nat.gcd_le_right _ (by omega)
  have hG : nt_G ((2 ^ n - 1) / Nat.gcd k (2 ^ n - 1)) := by
    refine ⟨Nat.div_pos hgl hg, Or.inl ?_⟩
    have := Nat.div_le_self (2 ^ n - 1) (Nat.gcd k (2 ^ n - 1))
    omega
  unfold fX4_isOfLength
  rw [st_whole n (by omega), Option.bind_some, Option.bind_some, st_gcd (by omega) (by omega), Option.bind_some, if_neg (nu_lz hg (by omega)), pk_lDiv (by omega) hg (by omega), st_len hG, Option.bind_some]
  have hL := (nt_Lspec hG).2.1
  by_cases c : nt_L ((2 ^ n - 1) / Nat.gcd k (2 ^ n - 1)) = n
  · rw [if_pos c, c, if_pos rfl]
  · rw [if_neg c, if_neg (fun q => c ((nI_eq (by omega) (by omega)).mp q))]
theorem fp_iL (r9 : Nat → Int32 → mg_H → Option (Unit × mg_H)) {n : Nat} (hn : 2 ≤ n) (hn8 : n ≤ 8) : ∀ d N k (w : mg_H) (h : Nat → Bool), fp_W w0 z w T h → (∀ i, i < k → h i = fp_hb n i) → k + d = 256 → d < N → ∃ w' h', fX4_findPairs_b17 r9 N (z + 4) (nI n) (nI k) w = fX4_findPairs_b67 r9 mg_N (z + 4) (nI n) (nI 1) w' ∧ fp_W w0 z w' T h' ∧ ∀ i, i < 256 → h' i = fp_hb n i := by
  have o1 := nu_pw8 (show 1 ≤ n by omega) hn8
  intro d
  induction d with
  | zero =>
    intro N k w h hW hh h1 h2
    obtain ⟨N, rfl⟩ : ∃ m, N = m + 1 := ⟨N - 1, by omega⟩
    obtain rfl : k = 256 := by omega
    refine ⟨w, h, ?_, hW, hh⟩
    rw [fX4_findPairs_b17, if_pos (by decide), fX4_findPairs_b65]
    rfl
  | succ d ih =>
    intro N k w h hW hh h1 h2
    obtain ⟨N, rfl⟩ : ∃ m, N = m + 1 := ⟨N - 1, by omega⟩
    obtain ⟨⟨_, hz⟩, g7, hl⟩ := fp_gN hW
    obtain ⟨w1, e1, h3⟩ := fp_flag hW (show k < 256 by omega) (fp_hb n k)
    rw [fX4_findPairs_b17, if_neg (by exact nI_ge (a := k) (b := 256) (by omega) (by omega)), g7, st_whole n (by omega), Option.bind_some, nI_l (show k < 2 ^ 31 by omega), st_in, Option.bind_some, fp_isOf (by omega) hn8 (by omega), Option.bind_some, nu_sel, nu_sel]
    have hb : fX4_findPairs_b58 r9 (fX4_findPairs_b17 r9 N) (z + 4) (nI n) (nI k) (if fp_hb n k = true then 1 else 0) (nI k) (z + 10) w = fX4_findPairs_b17 r9 N (z + 4) (nI n) (nI (k + 1)) w1 := by
      unfold fX4_findPairs_b58
      rw [e1, Option.bind_some, show nI k + 1 = nI (k + 1) from nI_1 k]
    obtain ⟨w', h', i1, i2⟩ := ih N (k + 1) w1 _ h3 (fun i hi => by
      by_cases c : i = k
      · rw [if_pos c, c]
      · rw [if_neg c]; exact hh i (by omega)) (by omega) (by omega)
    refine ⟨w', h', ?_, i2⟩
    rw [← i1, ← hb]
    have hin : ((1 : Int64) ≤ lN k ∧ lN k ≤ lN (2 ^ n - 1) - 1) ↔ (1 ≤ k ∧ k ≤ 2 ^ n - 2) := by
      rw [show lN (2 ^ n - 1) - 1 = lN (2 ^ n - 2) from lN_sub (b := 1) (by omega), show (1 : Int64) = lN 1 from rfl, pk_lLE (by omega) (by omega), pk_lLE (by omega) (by omega)]
    rw [nu_ite hin]
    have hB : fp_hb n k = !(decide (1 ≤ k ∧ k ≤ 2 ^ n - 2) && decide (nt_L ((2 ^ n - 1) / Nat.gcd k (2 ^ n - 1)) = n)) := by
      unfold fp_hb
      congr 2
      · rw [nu_ble, nu_ble]
        by_cases c1 : 1 ≤ k <;> by_cases c2 : k ≤ 2 ^ n - 2 <;> simp [c1, c2]
      · rw [nu_beq]
    rw [hB]
    by_cases c1 : 1 ≤ k ∧ k ≤ 2 ^ n - 2
    · rw [if_pos c1]
      by_cases c2 : nt_L ((2 ^ n - 1) / Nat.gcd k (2 ^ n - 1)) = n
      · rw [if_pos c2]; simp [c1, c2]
      · rw [if_neg c2, fX4_findPairs_b53]; simp [c2]
    · rw [if_neg c1, fX4_findPairs_b53]; simp [c1]
theorem fp_nL {T' : List (Nat × Nat × Nat)} : ∀ k N n (w : mg_H) (h : Nat → Bool) (T : List (Nat × Nat × Nat)), fp_W w0 z w T h → n + k = 9 → 2 ≤ n → k < N → fp_n k n T = some T' → ∃ w' h', fX4_findPairs_b9 N (z + 4) (nI n) w = some ((), w') ∧ fp_W w0 z w' T' h' := by
  intro k
  induction k with
  | zero =>
    intro N n w h T hW h1 h2 h3 h4
    obtain ⟨N, rfl⟩ : ∃ m, N = m + 1 := ⟨N - 1, by omega⟩
    cases h4
    obtain rfl : n = 9 := by omega
    exact ⟨w, h, by rw [fX4_findPairs_b9, if_pos (by decide)], hW⟩
  | succ k ih =>
    intro N n w h T hW h1 h2 h3 h4
    obtain ⟨N, rfl⟩ : ∃ m, N = m + 1 := ⟨N - 1, by omega⟩
    rw [fp_n] at h4
    have o1 := nu_pw8 (show 1 ≤ n by omega) (show n ≤ 8 by omega)
    have o2 : 2 ^ 2 ≤ 2 ^ n := Nat.pow_le_pow_right (by omega) h2
    cases e : fp_a n (2 ^ n - 2) 1 (fp_h n 256) T with
    | none => rw [e] at h4; cases h4
    | some T2 =>
      rw [e, Option.bind_some] at h4
      obtain ⟨w1, h', i1, i2, i3⟩ := fp_iL (fX4_findPairs_b9 N) h2 (by omega) 256 mg_N 0 w h hW (fun i hi => by omega) (by omega) (by unfold mg_N; omega)
      have i4 : fp_W w0 z w1 T (fp_h n 256).testBit := fp_congr i2 fun i hi => by rw [fp_hbit, i3 i hi, decide_eq_true hi]; rfl
      obtain ⟨w2, m', j1, j2⟩ := fp_aL (fX4_findPairs_b9 N) (by omega) (by omega) (2 ^ n - 2) mg_N 1 w1 _ T i4 (by omega) (by unfold mg_N; omega) e
      obtain ⟨w3, h3', k1, k2⟩ := ih N (n + 1) w2 m' T2 j2 (by omega) (by omega) (by omega) h4
      refine ⟨w3, h3', ?_, k2⟩
      rw [fX4_findPairs_b9, if_neg (by exact nI_nlt (a := 8) (b := n) (by omega) (by omega))]
      have i1 : fX4_findPairs_b17 (fX4_findPairs_b9 N) mg_N (z + 4) (nI n) 0 w = _ := i1
      rw [i1, j1, k1]
theorem fp_find (hW : fp_W w0 z w [] h) : ∃ w' h', fX4_findPairs (z + 4) w = some ((), w') ∧ fp_W w0 z w' tb h' := by
  obtain ⟨⟨_, hz⟩, -, -⟩ := fp_gN hW
  obtain ⟨w1, e1, h1⟩ := fp_pairs0 hW (n := 1) (a := 0) (b := 0) (by omega) (by omega) (by omega) (by omega) (by simp)
  obtain ⟨w2, h2, e2, i2⟩ := fp_nL 7 mg_N 2 w1 h _ h1 (by omega) (by omega) (by unfold mg_N; omega) fp_tb
  refine ⟨w2, h2, ?_, i2⟩
  unfold fX4_findPairs
  rw [wr_rc hz]
  have e1 : fX4_pairs0 (z + 4) 1 0 0 w = some ((), w1) := e1
  rw [e1]
  exact e2
end FP
