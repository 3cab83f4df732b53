/-! MEET: the class -/
theorem me_or : ∀ b, b < 8 → ∀ x, x < 3 → (nI b ||| ((1 : Int32) <<< (nI x &&& 31))) = nI (b ||| 2 ^ x) ∧ (b ||| 2 ^ x) < 8 := by decide
theorem me_tb : ∀ b, b < 8 → ∀ x, x < 3 → ∀ l, l < 3 → (b ||| 2 ^ x).testBit l = (b.testBit l || decide (x = l)) := by decide
theorem me_and : ∀ b, b < 8 → ∀ l, l < 2 → ((nI b &&& ((1 : Int32) <<< (((1 : Int32) - nI l) &&& 31))) = 0 ↔ b.testBit (1 - l) = false) := by decide
def me_R (r : Int32) (φ : Prop) : Prop := (r = 1 ∧ φ) ∨ (r = 0 ∧ ¬ φ)
theorem st_agree {x y : Nat} (hx : x ≤ 2) (hy : y ≤ 2) : ∃ r, fX3_agree (nI x) (nI y) = some r ∧ me_R r (me_g x y) := by
  have e2 : ∀ v, v ≤ 2 → (nI v = (2 : Int32) ↔ v = 2) := fun v hv => nI_eq (b := 2) (by omega) (by omega)
  unfold fX3_agree
  rw [nu_ite (nI_eq (show x < 2 ^ 31 by omega) (show y < 2 ^ 31 by omega)), nu_ite (e2 x hx), nu_ite (e2 y hy)]
  by_cases c1 : x = y
  · rw [if_pos c1]; exact ⟨1, rfl, Or.inl ⟨rfl, Or.inl c1⟩⟩
  · rw [if_neg c1]
    by_cases c2 : x = 2
    · rw [if_pos c2]; exact ⟨1, rfl, Or.inl ⟨rfl, Or.inr (Or.inl c2)⟩⟩
    · rw [if_neg c2]
      by_cases c3 : y = 2
      · rw [if_pos c3]; exact ⟨1, rfl, Or.inl ⟨rfl, Or.inr (Or.inr c3)⟩⟩
      · rw [if_neg c3]
        exact ⟨0, rfl, Or.inr ⟨rfl, fun h => by rcases h with h | h | h <;> omega⟩⟩
theorem me_tw {q : Nat × Nat} (ho : ws_ok q) (t : Nat) : fX3_twice (nI (q.1 * 2 ^ t % q.2)) (nI q.2) = some (nI (q.1 * 2 ^ (t + 1) % q.2)) := by
  have hl := nt_Glt ho.2.2
  rw [st_twice (Nat.mod_lt _ hl.1) (by omega), Nat.mul_comm 2, nu_mmod, Nat.pow_succ, Nat.mul_assoc]
theorem me_lt {q : Nat × Nat} (ho : ws_ok q) (t : Nat) : q.1 * 2 ^ t % q.2 < 2 ^ 20 := by
  have hl := nt_Glt ho.2.2
  have := Nat.mod_lt (q.1 * 2 ^ t) hl.1
  omega
theorem me_let {w : mg_H} {c : Nat} {q r : Nat × Nat} (hr : w c = some (ws_turn r)) (ho : ws_ok q) (hor : ws_ok r) (t : Nat) : fX2_letterOf c (nI (q.1 * 2 ^ t % q.2)) (nI q.2) w = some (nI (mX q r t)) := tu_letter hr hor (me_lt ho t) (nt_Glt ho.2.2).2
theorem me_nx {i g : Nat} (hg : 0 < g) : (i + 1) % g = if g ≤ i % g + 1 then 0 else i % g + 1 := by
  have h1 := Nat.mod_lt i hg
  have e : (i + 1) % g = (i % g + 1) % g := by
    conv => lhs; rw [← Nat.div_add_mod i g, Nat.add_assoc, Nat.mul_add_mod]
  rw [e]
  by_cases c : g ≤ i % g + 1
  · rw [if_pos c, show i % g + 1 = g by omega, Nat.mod_self]
  · rw [if_neg c, Nat.mod_eq_of_lt (by omega)]
section MB
variable {z : Nat} {w0 w : mg_H} {fs : List Value} {a b c T : Nat} {p q r : Nat × Nat}
theorem me_ahead (h1 : w a = some (ws_turn p)) (h2 : w b = some (ws_turn q)) (h3 : w c = some (ws_turn r)) (o1 : ws_ok p) (o2 : ws_ok q) (o3 : ws_ok r) (hT : T < 2 ^ 31) : ∀ d N t, t + d = T → d < N → ∃ v, fX3_agreeAhead_b15 w N a b c (nI T) (nI (p.1 * 2 ^ t % p.2)) (nI (q.1 * 2 ^ t % q.2)) (nI t) = some v ∧ me_R v (∀ s, t ≤ s → s < T → me_g (mX p r s) (mX q r s)) := by
  have p1 := (tu_g h1).2.1
  have q1 := (tu_g h2).2.1
  intro d
  induction d with
  | zero =>
    intro N t e1 e2
    obtain ⟨N, rfl⟩ : ∃ m, N = m + 1 := ⟨N - 1, by omega⟩
    rw [fX3_agreeAhead_b15, if_pos (nI_le (by omega) (by omega))]
    exact ⟨1, rfl, Or.inl ⟨rfl, fun s s1 s2 => by omega⟩⟩
  | succ d ih =>
    intro N t e1 e2
    obtain ⟨N, rfl⟩ : ∃ m, N = m + 1 := ⟨N - 1, by omega⟩
    obtain ⟨v0, f0, f1⟩ := st_agree (mX_le p r t) (mX_le q r t)
    obtain ⟨v, g0, g1⟩ := ih N (t + 1) (by omega) (by omega)
    rw [fX3_agreeAhead_b15, if_neg (nI_ge (by omega) (by omega)), p1, Option.bind_some, tu_rc h3, me_let h3 o1 o3, Option.bind_some, q1, Option.bind_some, tu_rc h3, me_let h3 o2 o3, Option.bind_some, f0, Option.bind_some, Option.bind_some, me_tw o1, Option.bind_some, Option.bind_some, me_tw o2, Option.bind_some, show nI t + 1 = nI (t + 1) from nI_1 t, g0]
    rcases f1 with ⟨rfl, f1⟩ | ⟨rfl, f1⟩
    · rw [if_neg (by decide)]
      refine ⟨v, rfl, ?_⟩
      rcases g1 with ⟨rfl, g1⟩ | ⟨rfl, g1⟩
      · refine Or.inl ⟨rfl, fun s s1 s2 => ?_⟩
        rcases Nat.lt_or_eq_of_le s1 with y | y
        · exact g1 s y s2
        · subst y; exact f1
      · exact Or.inr ⟨rfl, fun h => g1 (fun s s1 s2 => h s (by omega) s2)⟩
    · rw [if_pos rfl]
      exact ⟨0, rfl, Or.inr ⟨rfl, fun h => f1 (h t (by omega) (by omega))⟩⟩
def me_W (z : Nat) (w0 w : mg_H) (f : Nat → Int32) : Prop := w (z + 3) = some (.inr (0, 512, .inl f)) ∧ ∀ x, x ≠ z + 3 → w x = w0 x
theorem me_set {f : Nat → Int32} (h : me_W z w0 w f) (k : Nat) (v : Int32) : me_W z w0 (mg_set w (z + 3) (.inr (0, 512, .inl (upd f k v)))) (upd f k v) := ⟨wr_set _ _ _, fun x hx => by rw [wr_ne hx]; exact h.2 x hx⟩
theorem me_clear (hz : w0 z = some (.inl (3, fs))) (hfs : fs[2]? = some (.ref (z + 3))) {g : Nat} (hg : g ≤ 510) (xT : Int32) : ∀ d N k w f, me_W z w0 w f → k + d = g → d < N → (∀ k', k' < k → f k' = nI 0) → ∃ w' f', fX3_agreeInRings_b19 N z a b c xT (nI g) (nI k) w = fX3_agreeInRings_b50 z a b c xT (nI g) w' ∧ me_W z w0 w' f' ∧ ∀ k', k' < g → f' k' = nI 0 := by
  intro d
  induction d with
  | zero =>
    intro N k w f hw e1 e2 hf
    obtain ⟨N, rfl⟩ : ∃ m, N = m + 1 := ⟨N - 1, by omega⟩
    obtain rfl : k = g := by omega
    rw [fX3_agreeInRings_b19, if_pos (nI_le (by omega) (by omega))]
    exact ⟨w, f, rfl, hw, hf⟩
  | succ d ih =>
    intro N k w f hw e1 e2 hf
    obtain ⟨N, rfl⟩ : ∃ m, N = m + 1 := ⟨N - 1, by omega⟩
    have hz' : w z = some (.inl (3, fs)) := by rw [hw.2 z (by omega)]; exact hz
    rw [fX3_agreeInRings_b19, if_neg (nI_ge (by omega) (by omega)), wr_gN hz' hfs, wr_len hw.1 (by omega), Option.bind_some, if_neg (nI_ge (by omega) (by omega)), wr_gN hz' hfs, wr_stI hw.1 (by omega) (by omega), Option.bind_some, show nI k + 1 = nI (k + 1) from nI_1 k]
    refine ih N (k + 1) _ _ (me_set hw k 0) (by omega) (by omega) (fun k' h' => ?_)
    by_cases y : k' = k
    · subst y; simp [upd]; rfl
    · simp only [upd, if_neg y]; exact hf k' (by omega)
def me_I (p r : Nat × Nat) (T g : Nat) (f : Nat → Int32) (i : Nat) : Prop := ∀ k, k < g → ∃ b, b < 8 ∧ f k = nI b ∧ ∀ l, l < 3 → (b.testBit l = true ↔ ∃ i', i' < i ∧ i' % g = k ∧ mX p r (T + i') = l)
theorem me_I1 {g i : Nat} {f : Nat → Int32} (hg : 0 < g) (h : me_I p r T g f i) : ∃ b, b < 8 ∧ f (i % g) = nI b ∧ me_I p r T g (upd f (i % g) (nI (b ||| 2 ^ mX p r (T + i)))) (i + 1) := by
  have hx := mX_le p r (T + i)
  obtain ⟨b, b1, b2, b3⟩ := h (i % g) (Nat.mod_lt _ hg)
  refine ⟨b, b1, b2, fun k hk => ?_⟩
  by_cases y : k = i % g
  · subst y
    refine ⟨b ||| 2 ^ mX p r (T + i), (me_or b b1 _ (by omega)).2, by simp [upd], fun l hl => ?_⟩
    rw [me_tb b b1 _ (by omega) l hl, Bool.or_eq_true, b3 l hl]
    constructor
    · rintro (⟨i', h1, h2, h3⟩ | h1)
      · exact ⟨i', by omega, h2, h3⟩
      · exact ⟨i, by omega, rfl, of_decide_eq_true h1⟩
    · rintro ⟨i', h1, h2, h3⟩
      rcases Nat.lt_or_eq_of_le (Nat.le_of_lt_succ h1) with y | y
      · exact Or.inl ⟨i', y, h2, h3⟩
      · subst y; exact Or.inr (decide_eq_true h3)
  · obtain ⟨b', c1, c2, c3⟩ := h k hk
    refine ⟨b', c1, by simp only [upd, if_neg y]; exact c2, fun l hl => ?_⟩
    rw [c3 l hl]
    constructor
    · rintro ⟨i', h1, h2, h3⟩
      exact ⟨i', by omega, h2, h3⟩
    · rintro ⟨i', h1, h2, h3⟩
      rcases Nat.lt_or_eq_of_le (Nat.le_of_lt_succ h1) with y' | y'
      · exact ⟨i', y', h2, h3⟩
      · subst y'; exact absurd h2.symm y
theorem me_mark (hz : w0 z = some (.inl (3, fs))) (hfs : fs[2]? = some (.ref (z + 3))) {g L : Nat} (hg : 0 < g) (hg5 : g ≤ 510) (ha : z + 14 ≤ a) (hc : z + 14 ≤ c) (h1 : w0 a = some (ws_turn p)) (h3 : w0 c = some (ws_turn r)) (o1 : ws_ok p) (o3 : ws_ok r) (hL : nt_L p.2 = L) (xT : Int32) : ∀ d N i w f, me_W z w0 w f → i + d = L → d < N → me_I p r T g f i → ∃ w' f', fX3_agreeInRings_b64 N z a b c xT (nI g) (nI (p.1 * 2 ^ (T + i) % p.2)) (nI (i % g)) (nI i) w = fX3_agreeInRings_b141 z b c xT (nI g) w' ∧ me_W z w0 w' f' ∧ me_I p r T g f' L := by
  have hL5 := (nt_Lspec o1.2.2).2.1
  rw [hL] at hL5
  intro d
  induction d with
  | zero =>
    intro N i w f hw e1 e2 hf
    obtain ⟨N, rfl⟩ : ∃ m, N = m + 1 := ⟨N - 1, by omega⟩
    obtain rfl : i = L := by omega
    have h1' : w a = some (ws_turn p) := by rw [hw.2 a (by omega)]; exact h1
    rw [fX3_agreeInRings_b64, (tu_g h1').2.2.2, hL, Option.bind_some, if_pos (nI_le (by omega) (by omega))]
    exact ⟨w, f, rfl, hw, hf⟩
  | succ d ih =>
    intro N i w f hw e1 e2 hf
    obtain ⟨N, rfl⟩ : ∃ m, N = m + 1 := ⟨N - 1, by omega⟩
    have h1' : w a = some (ws_turn p) := by rw [hw.2 a (by omega)]; exact h1
    have h3' : w c = some (ws_turn r) := by rw [hw.2 c (by omega)]; exact h3
    have hz' : w z = some (.inl (3, fs)) := by rw [hw.2 z (by omega)]; exact hz
    have hm := Nat.mod_lt i hg
    have hx := mX_le p r (T + i)
    obtain ⟨b', c1, c2, c3⟩ := me_I1 hg hf
    have hw2 := me_set hw (i % g) (nI (b' ||| 2 ^ mX p r (T + i)))
    have h1'' : mg_set w (z + 3) (.inr (0, 512, .inl (upd f (i % g) (nI (b' ||| 2 ^ mX p r (T + i)))))) a = some (ws_turn p) := by rw [hw2.2 a (by omega)]; exact h1
    have ih := ih N (i + 1) _ _ hw2 (by omega) (by omega) c3
    have hn := me_nx (i := i) hg
    rw [fX3_agreeInRings_b64, (tu_g h1').2.2.2, hL, Option.bind_some, if_neg (nI_ge (by omega) (by omega)), wr_gN hz' hfs, wr_len hw.1 (by omega), Option.bind_some, if_neg (nI_ge (by omega) (by omega)), wr_gN hz' hfs, wr_ldI hw.1 (by omega) (by omega), Option.bind_some, (tu_g h1').2.1, Option.bind_some, tu_rc h3', me_let h3' o1 o3, Option.bind_some, c2, (me_or b' c1 _ (by omega)).1, wr_stI hw.1 (by omega) (by omega), Option.bind_some, (tu_g h1'').2.1, Option.bind_some, me_tw o1, Option.bind_some, show nI (i % g) + 1 = nI (i % g + 1) from nI_1 _, nu_ite (nI_leI (show g < 2 ^ 31 by omega) (show i % g + 1 < 2 ^ 31 by omega)), fX3_agreeInRings_b133, fX3_agreeInRings_b133, show nI i + 1 = nI (i + 1) from nI_1 i, show T + i + 1 = T + (i + 1) from rfl]
    by_cases y : g ≤ i % g + 1
    · rw [if_pos y] at hn ⊢
      rw [hn, show nI 0 = (0 : Int32) from nI_0] at ih
      exact ih
    · rw [if_neg y] at hn ⊢
      rw [hn] at ih
      exact ih
theorem me_test (hz : w z = some (.inl (3, fs))) (hfs : fs[2]? = some (.ref (z + 3))) {f : Nat → Int32} (hw : w (z + 3) = some (.inr (0, 512, .inl f))) {g L M : Nat} (hg : 0 < g) (hg5 : g ≤ 510) (h2 : w b = some (ws_turn q)) (h3 : w c = some (ws_turn r)) (o2 : ws_ok q) (o3 : ws_ok r) (hM : nt_L q.2 = M) (hf : me_I p r T g f L) : ∀ d N j, j + d = M → d < N → ∃ v, fX3_agreeInRings_b155 N z b c (nI g) (nI (q.1 * 2 ^ (T + j) % q.2)) (nI (j % g)) (nI j) w = some (v, w) ∧ me_R v (∀ j', j ≤ j' → j' < M → ∀ i, i < L → i % g = j' % g → me_g (mX p r (T + i)) (mX q r (T + j'))) := by
  have hM5 := (nt_Lspec o2.2.2).2.1
  rw [hM] at hM5
  intro d
  induction d with
  | zero =>
    intro N j e1 e2
    obtain ⟨N, rfl⟩ : ∃ m, N = m + 1 := ⟨N - 1, by omega⟩
    rw [fX3_agreeInRings_b155, (tu_g h2).2.2.2, hM, Option.bind_some, if_pos (nI_le (by omega) (by omega))]
    exact ⟨1, rfl, Or.inl ⟨rfl, fun s s1 s2 => by omega⟩⟩
  | succ d ih =>
    intro N j e1 e2
    obtain ⟨N, rfl⟩ : ∃ m, N = m + 1 := ⟨N - 1, by omega⟩
    have hm := Nat.mod_lt j hg
    have hx := mX_le q r (T + j)
    obtain ⟨b', c1, c2, c3⟩ := hf (j % g) hm
    obtain ⟨v, g0, g1⟩ := ih N (j + 1) (by omega) (by omega)
    have hn := me_nx (i := j) hg
    have nxt : fX3_agreeInRings_b211 (fX3_agreeInRings_b155 N) z b c (nI g) (nI (q.1 * 2 ^ (T + j) % q.2)) (nI (j % g)) (nI j) w = some (v, w) := by
      unfold fX3_agreeInRings_b211
      rw [(tu_g h2).2.1, Option.bind_some, me_tw o2, Option.bind_some, show nI (j % g) + 1 = nI (j % g + 1) from nI_1 _, nu_ite (nI_leI (show g < 2 ^ 31 by omega) (show j % g + 1 < 2 ^ 31 by omega)), fX3_agreeInRings_b239, fX3_agreeInRings_b239, show nI j + 1 = nI (j + 1) from nI_1 j, show T + j + 1 = T + (j + 1) from rfl]
      by_cases y : g ≤ j % g + 1
      · rw [if_pos y] at hn ⊢
        rw [hn, show nI 0 = (0 : Int32) from nI_0] at g0
        exact g0
      · rw [if_neg y] at hn ⊢
        rw [hn] at g0
        exact g0
    have good : (∀ i, i < L → i % g = j % g → me_g (mX p r (T + i)) (mX q r (T + j))) → me_R v (∀ j', j ≤ j' → j' < M → ∀ i, i < L → i % g = j' % g → me_g (mX p r (T + i)) (mX q r (T + j'))) := by
      intro hh
      rcases g1 with ⟨rfl, g1⟩ | ⟨rfl, g1⟩
      · refine Or.inl ⟨rfl, fun s s1 s2 => ?_⟩
        rcases Nat.lt_or_eq_of_le s1 with y | y
        · exact g1 s y s2
        · subst y; exact hh
      · exact Or.inr ⟨rfl, fun h => g1 (fun s s1 s2 => h s (by omega) s2)⟩
    have e2' : (nI (mX q r (T + j)) = (2 : Int32) ↔ mX q r (T + j) = 2) := nI_eq (b := 2) (by omega) (by omega)
    rw [fX3_agreeInRings_b155, (tu_g h2).2.2.2, hM, Option.bind_some, if_neg (nI_ge (by omega) (by omega)), wr_gN hz hfs, wr_len hw (by omega), Option.bind_some, if_neg (nI_ge (by omega) (by omega)), (tu_g h2).2.1, Option.bind_some, tu_rc h3, me_let h3 o2 o3, Option.bind_some, nu_ite e2', wr_gN hz hfs, wr_ldI hw (by omega) (by omega), Option.bind_some, c2, nxt]
    by_cases y : mX q r (T + j) = 2
    · rw [if_pos y]
      exact ⟨v, rfl, good (fun i _ _ => Or.inr (Or.inr y))⟩
    · rw [if_neg y, nu_ite (me_and b' c1 (mX q r (T + j)) (by omega))]
      have c3 := c3 (1 - mX q r (T + j)) (by omega)
      by_cases t : b'.testBit (1 - mX q r (T + j)) = false
      · rw [if_pos t]
        refine ⟨v, rfl, good (fun i hi he => ?_)⟩
        have hxi := mX_le p r (T + i)
        by_cases u : mX p r (T + i) = 1 - mX q r (T + j)
        · have := c3.mpr ⟨i, hi, he, u⟩
          rw [t] at this
          exact absurd this (by decide)
        · unfold me_g
          omega
      · rw [if_neg t]
        refine ⟨0, rfl, Or.inr ⟨rfl, fun h => ?_⟩⟩
        obtain ⟨i, hi, he, u⟩ := c3.mp (by cases hb : b'.testBit (1 - mX q r (T + j)) with | true => rfl | false => exact absurd hb t)
        have := h j (by omega) (by omega) i hi he
        unfold me_g at this
        omega
end MB
