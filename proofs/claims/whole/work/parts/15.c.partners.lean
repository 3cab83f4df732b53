theorem cp_mbit (n : Nat) : ∀ m k, (cp_mask n m).testBit k = (decide (k < m) && Nat.beq (cp_ring n k) n)
  | 0, k => by simp [cp_mask]
  | m + 1, k => by
    rw [cp_mask, Nat.testBit_or, cp_mbit n m k]
    by_cases c : k = m
    · subst c
      cases h : Nat.beq (cp_ring n k) n <;> simp
    · have e : (if Nat.beq (cp_ring n m) n = true then 2 ^ m else 0).testBit k = false := by
        split
        · rw [Nat.testBit_two_pow]; simp; omega
        · simp
      rw [e, Bool.or_false]
      have : (k < m + 1) ↔ k < m := by omega
      simp [this]
theorem nu_sg4 (a b : Nat) : (Nat.blt a b = true ∧ Nat.beq a b = false ∧ nu_sg a b = -1) ∨ (Nat.blt a b = false ∧ Nat.beq a b = true ∧ nu_sg a b = 0) ∨ (Nat.blt a b = false ∧ Nat.beq a b = false ∧ nu_sg a b = 1) := by
  rw [nu_blt, nu_beq]
  rcases nu_sg3 a b with ⟨h, e⟩ | ⟨h, e⟩ | ⟨h, e⟩
  · exact Or.inl ⟨decide_eq_true h, decide_eq_false (by omega), e⟩
  · exact Or.inr (Or.inl ⟨decide_eq_false (by omega), decide_eq_true h, e⟩)
  · exact Or.inr (Or.inr ⟨decide_eq_false (by omega), decide_eq_false (by omega), e⟩)
theorem cp_xs (a b l g : Nat) : 0 ≤ nu_sg a l * nu_sg a g * (nu_sg b l * nu_sg b g) ↔ ¬ cp_x a b (l, g) = true := by
  unfold cp_x
  rcases nu_sg4 a l with ⟨h1, h2, h3⟩ | ⟨h1, h2, h3⟩ | ⟨h1, h2, h3⟩ <;> rcases nu_sg4 a g with ⟨i1, i2, i3⟩ | ⟨i1, i2, i3⟩ | ⟨i1, i2, i3⟩ <;> rcases nu_sg4 b l with ⟨j1, j2, j3⟩ | ⟨j1, j2, j3⟩ | ⟨j1, j2, j3⟩ <;> rcases nu_sg4 b g with ⟨k1, k2, k3⟩ | ⟨k1, k2, k3⟩ | ⟨k1, k2, k3⟩ <;> (dsimp only; rw [h1, h2, h3, i1, i2, i3, j1, j2, j3, k1, k2, k3]; decide)
def cp_W (w0 : mg_H) (p : Nat) (w : mg_H) (T : List (Nat × Nat)) (U : List Nat) (e : Nat) (h : Nat → Bool) : Prop := ∃ f g u fh : Nat → Int32,
  w p = some (.inl (0, [.ref (p + 1), .ref (p + 2), .ref (p + 3), .int (nI T.length)])) ∧ w (p + 1) = some (.inr (0, 236, .inl f)) ∧ w (p + 2) = some (.inr (0, 236, .inl g)) ∧ w (p + 3) = some (.inr (0, 9, .inl u)) ∧ (e = 0 ∨ w (p + 4) = some (.inr (1, 255, .inl fh)) ∧ ∀ k, fh k = 0 ∨ fh k = 1) ∧ T.length ≤ 236 ∧ e ≤ 255 ∧
  (∀ k t, T[k]? = some t → f k = nI t.1 ∧ g k = nI t.2 ∧ t.1 < 2 ^ 25 ∧ t.2 < 2 ^ 25) ∧ (∀ k v, U[k]? = some v → u k = nI v) ∧ (∀ k, k < e → fh k = if h k = true then 1 else 0) ∧ ∀ a, a < p ∨ p + 4 < a → w a = w0 a
section CP
variable {w0 w : mg_H} {p e : Nat} {T : List (Nat × Nat)} {U : List Nat} {h : Nat → Bool}
theorem cp_join (hW : cp_W w0 p w T U e h) {a b : Nat} (ha : a < 2 ^ 25) (hb : b < 2 ^ 25) (hT : T.length < 236) : ∃ w', fX0_join p (nI a) (nI b) w = some ((), w') ∧ cp_W w0 p w' (T ++ [(a, b)]) U e h := by
  obtain ⟨f, g, u, fh, h0, h1, h2, h3, h4, -, he, hk, hu, hh, hf⟩ := hW
  unfold fX0_join
  rw [wr_gI h0 rfl, Option.bind_some, if_neg (by exact nI_ge (a := T.length) (b := 236) hT (by omega)), wr_gN h0 rfl, Option.bind_some, wr_stI h1 hT (by omega), Option.bind_some]
  have a0 : mg_set w (p + 1) (.inr (0, 236, .inl (upd f T.length (nI a)))) p = _ := (wr_ne (by omega)).trans h0
  have a2 : mg_set w (p + 1) (.inr (0, 236, .inl (upd f T.length (nI a)))) (p + 2) = _ := (wr_ne (by omega)).trans h2
  rw [wr_gN a0 rfl, wr_gI a0 rfl, Option.bind_some, wr_stI a2 hT (by omega), Option.bind_some]
  have b0 : mg_set (mg_set w (p + 1) (.inr (0, 236, .inl (upd f T.length (nI a))))) (p + 2) (.inr (0, 236, .inl (upd g T.length (nI b)))) p = _ := (wr_ne (by omega)).trans a0
  rw [wr_gI b0 rfl, Option.bind_some, wr_pI b0 (Nat.le_of_ble_eq_true rfl), Option.bind_some]
  refine ⟨_, rfl, upd f T.length (nI a), upd g T.length (nI b), u, fh, ?_, ?_, ?_, ?_, ?_, ?_, he, ?_, hu, hh, ?_⟩
  · rw [wr_set, List.length_append, show nI T.length + 1 = nI (T.length + 1) from nI_1 _]
    rfl
  · rw [wr_ne (by omega), wr_ne (by omega), wr_set]
  · rw [wr_ne (by omega), wr_set]
  · rw [wr_ne (by omega), wr_ne (by omega), wr_ne (by omega), h3]
  · rw [wr_ne (by omega), wr_ne (by omega), wr_ne (by omega)]; exact h4
  · rw [List.length_append]; exact hT
  · intro k t ht
    by_cases c : k < T.length
    · rw [List.getElem?_append_left c] at ht
      obtain ⟨e1, e2, r⟩ := hk k t ht
      have hne : k ≠ T.length := by omega
      exact ⟨by rw [pk_un hne, e1], by rw [pk_un hne, e2], r⟩
    · rw [List.getElem?_append_right (by omega)] at ht
      have hk0 : k = T.length := by
        by_cases q : k = T.length
        · exact q
        · rw [List.getElem?_eq_none (by simp; omega)] at ht; cases ht
      subst hk0
      rw [Nat.sub_self] at ht
      have ht : some (a, b) = some t := ht
      cases ht
      exact ⟨pk_us, pk_us, ha, hb⟩
  · intro a q
    rw [wr_ne (by omega), wr_ne (by omega), wr_ne (by omega), hf a q]
theorem cp_none (hW : cp_W w0 p w T U e h) {a b : Nat} (ha : a < 2 ^ 25) (hb : b < 2 ^ 25) : ∀ d N q, q + d = T.length → d < N → fX0_crossesNone_b2 w N p (nI a) (nI b) (nI q) = some (if (T.drop q).any (cp_x a b) = true then 0 else 1) := by
  obtain ⟨f, g, u, fh, h0, h1, h2, h3, h4, hT, he, hk, hu, hh, hf⟩ := hW
  intro d
  induction d with
  | zero =>
    intro N q e1 e2
    obtain ⟨N, rfl⟩ : ∃ m, N = m + 1 := ⟨N - 1, by omega⟩
    rw [fX0_crossesNone_b2, wr_gI h0 rfl, Option.bind_some, if_pos (nI_le (by omega) (by omega)), List.drop_eq_nil_of_le (by omega)]
    rfl
  | succ d ih =>
    intro N q e1 e2
    obtain ⟨N, rfl⟩ : ∃ m, N = m + 1 := ⟨N - 1, by omega⟩
    have hq : q < T.length := by omega
    obtain ⟨k1, k2, k3, k4⟩ := hk q T[q] (List.getElem?_eq_getElem hq)
    rw [List.drop_eq_getElem_cons hq, List.any_cons]
    generalize T[q] = t at *
    obtain ⟨tl, tg⟩ := t
    have k1 : f q = nI tl := k1
    have k2 : g q = nI tg := k2
    have k3 : tl < 2 ^ 25 := k3
    have k4 : tg < 2 ^ 25 := k4
    have g0 : ∀ {ρ : Type} (K : Nat → Option ρ), mg_gN w 0 p 0 K = K (p + 1) := fun K => wr_gN h0 rfl
    have g1 : ∀ {ρ : Type} (K : Nat → Option ρ), mg_gN w 0 p 1 K = K (p + 2) := fun K => wr_gN h0 rfl
    have l1 : mg_ldI w 0 (p + 1) (nI q) = some (nI tl) := by rw [wr_ldI h1 (by omega) (by omega), k1]
    have l2 : mg_ldI w 0 (p + 2) (nI q) = some (nI tg) := by rw [wr_ldI h2 (by omega) (by omega), k2]
    rw [fX0_crossesNone_b2, wr_gI h0 rfl, Option.bind_some, if_neg (nI_ge hq (by omega))]
    simp only [g0, g1, l1, l2, Option.bind_some, nI_l (show a < 2 ^ 31 by omega), nI_l (show b < 2 ^ 31 by omega), nI_l (show tl < 2 ^ 31 by omega), nI_l (show tg < 2 ^ 31 by omega), st_order (show a < 2 ^ 63 by omega) (show tl < 2 ^ 63 by omega), st_order (show a < 2 ^ 63 by omega) (show tg < 2 ^ 63 by omega), st_order (show b < 2 ^ 63 by omega) (show tl < 2 ^ 63 by omega), st_order (show b < 2 ^ 63 by omega) (show tg < 2 ^ 63 by omega)]
    rw [show nI q + 1 = nI (q + 1) from nI_1 q, ih N (q + 1) (by omega) (by omega)]
    rw [nu_ite (cp_xs a b tl tg)]
    cases c1 : cp_x a b (tl, tg) with
    | false => rw [if_pos (by decide), Bool.false_or]
    | true => rw [if_neg (by decide), Bool.true_or]; rfl
theorem cp_ld (hW : cp_W w0 p w T U e h) : (∃ fs, w p = some (.inl (0, fs))) ∧ (∀ k, k < e → mg_ldI w 1 (p + 4) (nI k) = some (if h k = true then 1 else 0)) ∧ T.length ≤ 236 ∧ e ≤ 255 ∧ (0 < e → mg_len w (p + 4) = some (nI 255)) := by
  obtain ⟨f, g, u, fh, h0, h1, h2, h3, h4, hT, he, hk, hu, hh, hf⟩ := hW
  refine ⟨⟨_, h0⟩, fun k hk => ?_, hT, he, fun q => ?_⟩
  · have := (h4.resolve_left (by omega)).1
    rw [wr_ldI this (by omega) (by omega), hh k hk]
  · have := (h4.resolve_left (by omega)).1
    exact wr_len this (by omega)
theorem cp_flag (hW : cp_W w0 p w T U e h) {k : Nat} (he : 0 < e) (hk : k < 255) (v : Bool) : ∃ w', mg_stZ w (p + 4) (nI k) (if v = true then 1 else 0) = some w' ∧ cp_W w0 p w' T U e (fun i => if i = k then v else h i) := by
  obtain ⟨f, g, u, fh, h0, h1, h2, h3, h4, hT, he2, ht, hu, hh, hf⟩ := hW
  obtain ⟨h4, h5⟩ := h4.resolve_left (by omega)
  rw [wr_stZ h4 hk (by omega)]
  refine ⟨_, rfl, f, g, u, _, (wr_ne (by omega)).trans h0, (wr_ne (by omega)).trans h1, (wr_ne (by omega)).trans h2, (wr_ne (by omega)).trans h3, Or.inr ⟨wr_set _ _ _, ?_⟩, hT, he2, ht, hu, ?_, fun a q => (wr_ne (by omega)).trans (hf a q)⟩
  · intro i
    by_cases c : i = k
    · subst c
      cases v
      · exact Or.inl (by simp [upd]; rfl)
      · exact Or.inr (by simp [upd]; rfl)
    · simp [upd, c, h5 i]
  intro i hi
  by_cases c : i = k
  · subst c
    cases v <;> simp [upd] <;> rfl
  · simp [upd, c, hh i hi]
theorem cp_congr (hW : cp_W w0 p w T U e h) {e' : Nat} {h' : Nat → Bool} (h1 : e' ≤ e) (e : ∀ k, k < e' → h' k = h k) : cp_W w0 p w T U e' h' := by
  obtain ⟨f, g, u, fh, q0, q1, q2, q3, q4, hT, he, hk, hu, hh, hf⟩ := hW
  exact ⟨f, g, u, fh, q0, q1, q2, q3, q4.imp_left (fun z => by omega), hT, by omega, hk, hu, fun k hk => by rw [e k hk]; exact hh k (by omega), hf⟩
theorem cp_bL (r27 : Nat → Nat → Int32 → Int32 → Int32 → mg_H → Option (Unit × mg_H)) {st a m' : Nat} {T' : List (Nat × Nat)} (hst : e * st < 2 ^ 25) (ha : a < e) : ∀ k N b (w : mg_H) (m : Nat) (T : List (Nat × Nat)), cp_W w0 p w T U e m.testBit → a < b → b + k = e → k < N → cp_b st a k b m T = some (m', T') → ∃ w', fX0_joinFree_b40 r27 N p (p + 4) (nI st) (nI e) (nI a) (nI b) w = r27 p (p + 4) (nI st) (nI e) (nI (a + 1)) w' ∧ cp_W w0 p w' T' U e m'.testBit := by
  intro k
  induction k with
  | zero =>
    intro N b w m T hW h0 h1 h2 h3
    obtain ⟨N, rfl⟩ : ∃ m, N = m + 1 := ⟨N - 1, by omega⟩
    cases h3
    obtain ⟨-, -, -, he, -⟩ := cp_ld hW
    refine ⟨w, ?_, hW⟩
    rw [fX0_joinFree_b40, if_pos (nI_le (by omega) (by omega)), fX0_joinFree_b104, show nI a + 1 = nI (a + 1) from nI_1 a]
  | succ k ih =>
    intro N b w m T hW h0 h1 h2 h3
    obtain ⟨N, rfl⟩ : ∃ m, N = m + 1 := ⟨N - 1, by omega⟩
    obtain ⟨⟨_, hz⟩, hl, hT, he, -⟩ := cp_ld hW
    have la : a * st < 2 ^ 25 := Nat.lt_of_le_of_lt (Nat.mul_le_mul_right st (by omega)) hst
    have lb : b * st < 2 ^ 25 := Nat.lt_of_le_of_lt (Nat.mul_le_mul_right st (by omega)) hst
    have hno : fX0_crossesNone p (nI a * nI st) (nI b * nI st) w = some (if T.any (cp_x (a * st) (b * st)) = true then 0 else 1) := by
      rw [pk_mul, pk_mul]
      exact cp_none hW la lb T.length mg_N 0 (by omega) (by unfold mg_N; omega)
    rw [cp_b] at h3
    rw [fX0_joinFree_b40, if_neg (nI_ge (by omega) (by omega)), hl a ha, Option.bind_some, nu_sel, hl b (by omega), Option.bind_some, nu_sel, wr_rc hz, hno, Option.bind_some]
    simp only [fX0_joinFree_b98, fX0_joinFree_b104, show nI a + 1 = nI (a + 1) from nI_1 a, show nI b + 1 = nI (b + 1) from nI_1 b]
    by_cases c1 : m.testBit a = true
    · rw [if_pos c1] at h3
      rw [if_pos c1]
      by_cases c2 : m.testBit b = true
      · rw [if_pos c2] at h3
        rw [if_pos c2]
        by_cases c3 : T.any (cp_x (a * st) (b * st)) = true
        · rw [if_pos c3] at h3
          rw [if_pos c3, if_pos rfl]
          exact ih N (b + 1) w m T hW (by omega) (by omega) (by omega) h3
        · rw [if_neg c3] at h3
          rw [if_neg c3, if_neg (by decide)]
          by_cases c4 : T.length < 236
          · rw [if_pos c4] at h3
            obtain ⟨w1, e1, g1⟩ := cp_join hW la lb c4
            obtain ⟨w2, e2, g2⟩ := cp_flag g1 (k := a) (by omega) (by omega) false
            obtain ⟨w3, e3, g3⟩ := cp_flag g2 (k := b) (by omega) (by omega) false
            have e2 : mg_stZ w1 (p + 4) (nI a) 0 = some w2 := e2
            have e3 : mg_stZ w2 (p + 4) (nI b) 0 = some w3 := e3
            rw [wr_rc hz, pk_mul, pk_mul, e1]
            unfold mg_bS
            rw [Option.bind_some]
            dsimp only
            rw [e2, Option.bind_some, e3, Option.bind_some]
            refine ih N (b + 1) w3 _ _ (cp_congr g3 (Nat.le_refl _) fun i hi => ?_) (by omega) (by omega) (by omega) h3
            rw [Nat.testBit_xor, Nat.testBit_xor, Nat.testBit_two_pow, Nat.testBit_two_pow]
            have hab : ¬ a = b := by omega
            by_cases d1 : i = b
            · subst d1; rw [if_pos rfl, c2]; simp [hab]
            · rw [if_neg d1]
              by_cases d2 : i = a
              · subst d2; rw [if_pos rfl, c1]; simp [Ne.symm d1]
              · rw [if_neg d2]; simp [Ne.symm d1, Ne.symm d2]
          · rw [if_neg c4] at h3; cases h3
      · rw [if_neg c2] at h3
        rw [if_neg c2]
        exact ih N (b + 1) w m T hW (by omega) (by omega) (by omega) h3
    · rw [if_neg c1] at h3
      cases h3
      rw [if_neg c1]
      exact ⟨w, rfl, hW⟩
theorem cp_aL {st : Nat} {T' : List (Nat × Nat)} (hst : e * st < 2 ^ 25) : ∀ k N a (w : mg_H) (m : Nat) (T : List (Nat × Nat)), cp_W w0 p w T U e m.testBit → a + k = e → k < N → cp_a st e k a m T = some T' → ∃ w' h', fX0_joinFree_b27 N p (p + 4) (nI st) (nI e) (nI a) w = some ((), w') ∧ cp_W w0 p w' T' U e h' := by
  intro k
  induction k with
  | zero =>
    intro N a w m T hW h1 h2 h3
    obtain ⟨N, rfl⟩ : ∃ m, N = m + 1 := ⟨N - 1, by omega⟩
    cases h3
    obtain ⟨-, -, -, he, -⟩ := cp_ld hW
    exact ⟨w, _, by rw [fX0_joinFree_b27, if_pos (nI_le (by omega) (by omega))], hW⟩
  | succ k ih =>
    intro N a w m T hW h1 h2 h3
    obtain ⟨N, rfl⟩ : ∃ m, N = m + 1 := ⟨N - 1, by omega⟩
    obtain ⟨-, -, -, he, -⟩ := cp_ld hW
    rw [cp_a] at h3
    cases hb : cp_b st a (e - a - 1) (a + 1) m T with
    | none => rw [hb] at h3; cases h3
    | some r =>
      rw [hb, Option.bind_some] at h3
      obtain ⟨w1, e1, g1⟩ := cp_bL (fX0_joinFree_b27 N) (m' := r.1) (T' := r.2) hst (show a < e by omega) (e - a - 1) mg_N (a + 1) w m T hW (by omega) (by omega) (by unfold mg_N; omega) hb
      rw [fX0_joinFree_b27, if_neg (nI_ge (by omega) (by omega)), show nI a + 1 = nI (a + 1) from nI_1 a, e1]
      exact ih N (a + 1) w1 _ _ g1 (by omega) (by omega) h3
theorem cp_mark {n : Nat} (hn : 2 ≤ n) (hn8 : n ≤ 8) : ∀ d N a (w : mg_H) (h : Nat → Bool), cp_W w0 p w T U 255 h → (∀ i, i < a → h i = Nat.beq (cp_ring n i) n) → a + d = 2 ^ n - 1 → d < N → ∃ w' h', fX0_markFree_b2 N (p + 4) (nI n) (nI a) w = some ((), w') ∧ cp_W w0 p w' T U 255 h' ∧ ∀ i, i < 2 ^ n - 1 → h' i = Nat.beq (cp_ring n i) n := by
  have o1 := nu_pw8 (show 1 ≤ n by omega) hn8
  have o2 : 2 ^ n - 1 ≥ n := by
    have := Nat.lt_two_pow_self (n := n)
    omega
  intro d
  induction d with
  | zero =>
    intro N a w h hW hh h1 h2
    obtain ⟨N, rfl⟩ : ∃ m, N = m + 1 := ⟨N - 1, by omega⟩
    obtain rfl : a = 2 ^ n - 1 := by omega
    exact ⟨w, h, by rw [fX0_markFree_b2, st_ones n (by omega), Option.bind_some, if_pos (nI_le (Nat.le_refl _) (by omega))], hW, hh⟩
  | succ d ih =>
    intro N a w h hW hh h1 h2
    obtain ⟨N, rfl⟩ : ∃ m, N = m + 1 := ⟨N - 1, by omega⟩
    obtain ⟨⟨_, hz⟩, hl, hT, he, hlen⟩ := cp_ld hW
    obtain ⟨r1, r2, r3, r4⟩ := cp_rings n (by omega) hn a (by omega)
    obtain ⟨w1, e1, g1⟩ := cp_flag hW (k := a) (by omega) (by omega) (Nat.beq (cp_ring n a) n)
    rw [fX0_markFree_b2, st_ones n (by omega), Option.bind_some, if_neg (nI_ge (by omega) (by omega)), hlen (by omega), Option.bind_some, if_neg (nI_ge (by omega) (by omega)), Option.bind_some, st_ring (N := cp_ring n a) (by omega) (by omega) r1 r3 (fun j q1 q2 => r4 j q2 q1) (by omega), Option.bind_some]
    have hb : fX0_markFree_b35 (fX0_markFree_b2 N) (p + 4) (nI n) (nI a) (if Nat.beq (cp_ring n a) n = true then 1 else 0) (nI a) (p + 4) w = fX0_markFree_b2 N (p + 4) (nI n) (nI (a + 1)) w1 := by
      unfold fX0_markFree_b35
      rw [e1, Option.bind_some, show nI a + 1 = nI (a + 1) from nI_1 a]
    obtain ⟨w', h', i1, i2⟩ := ih N (a + 1) w1 _ g1 (fun i hi => by
      by_cases c : i = a
      · rw [if_pos c, c]
      · rw [if_neg c]; exact hh i (by omega)) (by omega) (by omega)
    refine ⟨w', h', ?_, i2⟩
    rw [← i1, ← hb, nu_beq]
    by_cases c : cp_ring n a = n
    · rw [if_pos (by rw [c]), decide_eq_true c]; rfl
    · rw [if_neg (fun q => c ((nI_eq (by omega) (by omega)).mp q)), decide_eq_false c]; rfl
theorem cp_free {n : Nat} (hn : 2 ≤ n) (hn8 : n ≤ 8) {T' : List (Nat × Nat)} (hW : cp_W w0 p w T U (2 ^ n - 1) (cp_mask n (2 ^ n - 1)).testBit) (h3 : cp_a (21082635 / (2 ^ n - 1)) (2 ^ n - 1) (2 ^ n - 1) 0 (cp_mask n (2 ^ n - 1)) T = some T') : ∃ w' h', fX0_joinFree p (p + 4) (nI n) w = some ((), w') ∧ cp_W w0 p w' T' U (2 ^ n - 1) h' := by
  have o1 := nu_pw8 (show 1 ≤ n by omega) hn8
  obtain ⟨-, -, -, he, hlen⟩ := cp_ld hW
  have hst : (2 ^ n - 1) * (21082635 / (2 ^ n - 1)) < 2 ^ 25 := Nat.lt_of_le_of_lt (Nat.mul_div_le _ _) (by omega)
  unfold fX0_joinFree
  rw [st_ones n (by omega), Option.bind_some, nI_l (by omega)]
  have ho : fX3_over 21082635 (lN (2 ^ n - 1)) = some (lN (21082635 / (2 ^ n - 1))) := st_over (a := 21082635) (by omega) (by omega) (by omega)
  rw [ho, Option.bind_some, Option.bind_some, hlen (by omega), Option.bind_some, nu_i2n]
  have hmin : (if nI 255 < nI (2 ^ n - 1) then nI 255 else nI (2 ^ n - 1)) = nI (2 ^ n - 1) := if_neg (nI_nlt o1.2 (by omega))
  rw [hmin]
  exact cp_aL hst (2 ^ n - 1) mg_N 0 w _ T hW (by omega) (by unfold mg_N; omega) h3
theorem cp_up (hW : cp_W w0 p w T U e h) (hU : U.length < 9) : ∃ w', ((mg_gN w 0 p 2 fun v5 => (mg_gI w 0 p 3).bind fun v6 => mg_stI w v5 (nI U.length) v6) = some w') ∧ cp_W w0 p w' T (U ++ [T.length]) e h := by
  obtain ⟨f, g, u, fh, h0, h1, h2, h3, h4, hT, he2, ht, hu, hh, hf⟩ := hW
  rw [wr_gN h0 rfl, wr_gI h0 rfl, Option.bind_some, wr_stI h3 hU (by omega)]
  refine ⟨_, rfl, f, g, _, fh, (wr_ne (by omega)).trans h0, (wr_ne (by omega)).trans h1, (wr_ne (by omega)).trans h2, wr_set _ _ _, by rw [wr_ne (by omega)]; exact h4, hT, he2, ht, ?_, hh, fun a q => (wr_ne (by omega)).trans (hf a q)⟩
  intro k v hv
  by_cases c : k < U.length
  · rw [List.getElem?_append_left c] at hv
    rw [pk_un (by omega), hu k v hv]
  · rw [List.getElem?_append_right (by omega)] at hv
    have hk0 : k = U.length := by
      by_cases q : k = U.length
      · exact q
      · rw [List.getElem?_eq_none (by simp; omega)] at hv; cases hv
    subst hk0
    rw [Nat.sub_self] at hv
    have hv : some T.length = some v := hv
    cases hv
    exact pk_us
theorem cp_wide (hW : cp_W w0 p w T U e h) (h0 : 0 < e) : ∃ h', cp_W w0 p w T U 255 h' := by
  obtain ⟨f, g, u, fh, q0, q1, q2, q3, q4, hT, he, hk, hu, hh, hf⟩ := hW
  obtain ⟨q4, q5⟩ := q4.resolve_left (by omega)
  refine ⟨fun k => decide (fh k = 1), f, g, u, fh, q0, q1, q2, q3, Or.inr ⟨q4, q5⟩, hT, by omega, hk, hu, fun k hk => ?_, hf⟩
  rcases q5 k with q | q <;> simp [q]
theorem cp_nL {T' : List (Nat × Nat)} {U' : List Nat} (sz : Nat) : ∀ k N n (w : mg_H) (h : Nat → Bool) (T : List (Nat × Nat)) (U : List Nat), cp_W w0 p w T U 255 h → n + k = 9 → 2 ≤ n → U.length = n → k < N → cp_n k n T U = some (T', U') → ∃ w' h', fX0_init_b61 N p (p + 4) (nI n) w sz = some ((), w', 0, 0) ∧ cp_W w0 p w' T' U' 255 h' := by
  intro k
  induction k with
  | zero =>
    intro N n w h T U hW h1 h2 h3 h4 h5
    obtain ⟨N, rfl⟩ : ∃ m, N = m + 1 := ⟨N - 1, by omega⟩
    cases h5
    obtain rfl : n = 9 := by omega
    exact ⟨w, h, by rw [fX0_init_b61, if_pos (by decide)], hW⟩
  | succ k ih =>
    intro N n w h T U hW h1 h2 h3 h4 h5
    obtain ⟨N, rfl⟩ : ∃ m, N = m + 1 := ⟨N - 1, by omega⟩
    rw [cp_n] at h5
    have o1 := nu_pw8 (show 1 ≤ n by omega) (show n ≤ 8 by omega)
    cases e : cp_a (21082635 / (2 ^ n - 1)) (2 ^ n - 1) (2 ^ n - 1) 0 (cp_mask n (2 ^ n - 1)) T with
    | none => rw [e] at h5; cases h5
    | some T2 =>
      rw [e, Option.bind_some] at h5
      obtain ⟨w1, h', i1, i2, i3⟩ := cp_mark h2 (show n ≤ 8 by omega) (2 ^ n - 1) mg_N 0 w h hW (fun i hi => by omega) (by omega) (by unfold mg_N; omega)
      have i4 : cp_W w0 p w1 T U (2 ^ n - 1) (cp_mask n (2 ^ n - 1)).testBit := cp_congr i2 o1.2 fun i hi => by rw [cp_mbit, i3 i hi, decide_eq_true hi]; rfl
      obtain ⟨⟨_, hz1⟩, -⟩ := cp_ld i2
      obtain ⟨w2, m', j1, j2⟩ := cp_free h2 (show n ≤ 8 by omega) i4 e
      obtain ⟨h2', j3⟩ := cp_wide j2 (by omega)
      obtain ⟨w3, k1, k2⟩ := cp_up j3 (by omega)
      obtain ⟨w4, h4', l1, l2⟩ := ih N (n + 1) w3 h2' T2 (U ++ [T2.length]) k2 (by omega) (by omega) (by rw [List.length_append, h3]; rfl) (by omega) h5
      refine ⟨w4, h4', ?_, l2⟩
      rw [fX0_init_b61, if_neg (by exact nI_nlt (a := 8) (b := n) (by omega) (by omega))]
      have i1 : fX0_markFree (p + 4) (nI n) w = _ := i1
      rw [i1]
      unfold mg_bS
      rw [Option.bind_some]
      dsimp only
      rw [wr_rc hz1, j1, Option.bind_some]
      dsimp only
      rw [h3] at k1
      have hg : ∀ (K : mg_H → Option (Unit × mg_H × Nat × Nat)), (mg_gN w2 0 p 2 fun v5 => (mg_gI w2 0 p 3).bind fun v6 => (mg_stI w2 v5 (nI n) v6).bind K) = K w3 := by
        intro K
        obtain ⟨f, g, u, fh, q0, q1, q2, q3, -⟩ := j3
        rw [wr_gN q0 rfl, wr_gI q0 rfl, Option.bind_some] at k1 ⊢
        rw [k1, Option.bind_some]
      rw [hg, show nI n + 1 = nI (n + 1) from nI_1 n]
      exact l1
end CP
