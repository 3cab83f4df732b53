section TJ
variable {z sz n : Nat} {w : mg_H} {A : ws_A} {S : ws_S} {pa : Option Nat} {p : Nat}
theorem ct_nextL (hc : ws_C z w sz n A S kt_L kt_G kt_U (some p)) {m a t : Nat} {q : Nat × Nat} {s0 : Int32} (h8 : m ≤ 8) (h : w a = some (ws_turn q)) (ho : ws_ok q) (hs0 : ∀ k, k < 236 → (nI (tL k) ≤ s0 ↔ tL k < t)) : ∀ d N k b, k + d = cu m → d < N → hI q t b k → ∃ v, fX0_nextHolder_b26 w N p a (nI m) s0 b (nI k) = some v ∧ hI q t v (cu m) := by
  obtain ⟨⟨_, h0⟩, g3, g0, g1, g2, l1, l2, l3, len⟩ := ct_tab hc
  have hle := (cu_le m (by omega)).1
  intro d
  induction d with
  | zero =>
    intro N k b h1 h2 hi
    obtain ⟨N, rfl⟩ : ∃ m, N = m + 1 := ⟨N - 1, by omega⟩
    obtain rfl : k = cu m := by omega
    rw [fX0_nextHolder_b26, wr_rc h0, ct_upTo hc h8, Option.bind_some, if_pos (nI_le (by omega) (by omega))]
    exact ⟨b, rfl, hi⟩
  | succ d ih =>
    intro N k b h1 h2 hi
    obtain ⟨N, rfl⟩ : ∃ m, N = m + 1 := ⟨N - 1, by omega⟩
    have hk : k < 236 := by omega
    have hbk := tG_lt hk
    rw [fX0_nextHolder_b26, wr_rc h0, ct_upTo hc h8, Option.bind_some, if_neg (nI_ge (by omega) (by omega)), wr_rc h0, ct_holdsT hc hk h ho, Option.bind_some, nu_sel, fX0_nextHolder_b80, fX0_nextHolder_b84, fX0_nextHolder_b84, show nI k + 1 = nI (k + 1) from nI_1 k, g0, l1 k hk, Option.bind_some, g0, l1 k hk, Option.bind_some, g0, nu_ite (hs0 k hk)]
    have ext : (tH k q = true → t ≤ tL k → ∃ i, i < k ∧ b = nI i ∧ tL i ≤ tL k) → hI q t b (k + 1) := by
      intro hx
      rcases hi with ⟨e, hall⟩ | ⟨i, i1, i2, i3, i4, i5⟩
      · refine Or.inl ⟨e, fun j hj c => ?_⟩
        rcases Nat.lt_or_eq_of_le (Nat.le_of_lt_succ hj) with g | g
        · exact hall j g c
        · subst g
          rcases Nat.lt_or_ge (tL j) t with y | y
          · exact y
          · obtain ⟨i, g1, g2, -⟩ := hx c y
            rw [e] at g2
            exact absurd g2.symm (nI_n1 (by omega))
      · refine Or.inr ⟨i, by omega, i2, i3, i4, fun j hj c y => ?_⟩
        rcases Nat.lt_or_eq_of_le (Nat.le_of_lt_succ hj) with g | g
        · exact i5 j g c y
        · subst g
          obtain ⟨i', g1, g2, g3⟩ := hx c y
          have : i = i' := (nI_eq (by omega) (by omega)).mp (i2.symm.trans g2)
          rw [this]; exact g3
    have new : tH k q = true → t ≤ tL k → (∀ j, j < k → tH j q = true → t ≤ tL j → tL k ≤ tL j) → hI q t (nI k) (k + 1) := by
      intro c y hx
      refine Or.inr ⟨k, by omega, rfl, c, y, fun j hj c' y' => ?_⟩
      rcases Nat.lt_or_eq_of_le (Nat.le_of_lt_succ hj) with g | g
      · exact hx j g c' y'
      · subst g; exact Nat.le_refl _
    by_cases c : tH k q = true
    · rw [if_pos c]
      by_cases y : tL k < t
      · rw [if_pos y]
        exact ih N (k + 1) b (by omega) (by omega) (ext (fun _ y' => by omega))
      · rw [if_neg y]
        have y : t ≤ tL k := by omega
        rcases hi with ⟨e, hall⟩ | ⟨i, i1, i2, i3, i4, i5⟩
        · subst e
          rw [if_pos (by decide)]
          exact ih N (k + 1) (nI k) (by omega) (by omega) (new c y (fun j hj c' y' => by have := hall j hj c'; omega))
        · subst i2
          have hbi := tG_lt (show i < 236 by omega)
          rw [if_neg (nI_pos (by omega)), l1 i (by omega), Option.bind_some, nu_ite (nI_leI (show tL i < 2 ^ 31 by omega) (show tL k < 2 ^ 31 by omega))]
          by_cases g : tL i ≤ tL k
          · rw [if_pos g]
            exact ih N (k + 1) (nI i) (by omega) (by omega) (ext (fun _ _ => ⟨i, i1, rfl, g⟩))
          · rw [if_neg g]
            exact ih N (k + 1) (nI k) (by omega) (by omega) (new c y (fun j hj c' y' => by have := i5 j hj c' y'; omega))
    · rw [if_neg c]
      exact ih N (k + 1) b (by omega) (by omega) (ext (fun c' _ => absurd c' c))
theorem hI_st (q : Nat × Nat) (t : Nat) : hI q t (-1) 0 := Or.inl ⟨rfl, fun j hj => by omega⟩
theorem ct_next0 (hc : ws_C z w sz n A S kt_L kt_G kt_U (some p)) {m a : Nat} {q : Nat × Nat} (h8 : m ≤ 8) (h : w a = some (ws_turn q)) (ho : ws_ok q) : ∃ v, fX0_nextHolder p a (nI m) (-1) w = some v ∧ hs q m 0 v := by
  obtain ⟨⟨_, h0⟩, -⟩ := ct_tab hc
  have hle := (cu_le m (by omega)).1
  obtain ⟨v, e, hv⟩ := ct_nextL (t := 0) (s0 := -1) hc h8 h ho (fun k hk => by
    have := tG_lt hk
    rw [Int32.le_iff_toInt_le, nI_toInt (by omega)]
    have h4 : (-1 : Int32).toInt = -1 := by decide
    rw [h4]
    omega) (cu m) mg_N 0 (-1) (by omega) (by unfold mg_N; omega) (hI_st q 0)
  refine ⟨v, ?_, ?_⟩
  · unfold fX0_nextHolder
    rw [wr_rc h0, ct_unmade, Option.bind_some, if_pos rfl, fX0_nextHolder_b18]
    rw [show nI 0 = (0 : Int32) from nI_0] at e
    exact e
  · have := hI_hs hv
    rw [hR_0] at this
    exact this
theorem ct_next1 (hc : ws_C z w sz n A S kt_L kt_G kt_U (some p)) {m a k : Nat} {q : Nat × Nat} (h8 : m ≤ 8) (h : w a = some (ws_turn q)) (ho : ws_ok q) (hk : k < cu m) (hh : tH k q = true) : ∃ v, fX0_nextHolder p a (nI m) (nI k) w = some v ∧ hs q m (hR q m (tL k) + 1) v := by
  obtain ⟨⟨_, h0⟩, g3, g0, g1, g2, l1, l2, l3, len⟩ := ct_tab hc
  have hle := (cu_le m (by omega)).1
  have hbk := tG_lt (show k < 236 by omega)
  obtain ⟨v, e, hv⟩ := ct_nextL (t := tL k + 1) (s0 := nI (tL k)) hc h8 h ho (fun j hj => by
    have := tG_lt hj
    rw [nI_leI (by omega) (by omega)]
    omega) (cu m) mg_N 0 (-1) (by omega) (by unfold mg_N; omega) (hI_st q _)
  refine ⟨v, ?_, ?_⟩
  · unfold fX0_nextHolder
    rw [wr_rc h0, ct_made hc (show k < 236 by omega), Option.bind_some, if_neg (by decide), g0, l1 k (by omega), Option.bind_some, fX0_nextHolder_b18]
    rw [show nI 0 = (0 : Int32) from nI_0] at e
    exact e
  · have := hI_hs hv
    rw [hR_1 h8 hk hh] at this
    exact this
theorem ct_lenL (hc : ws_C z w sz n A S kt_L kt_G kt_U (some p)) {k : Nat} (hk : k < 236) : ∀ d N i, i + d = tl k → 1 ≤ i → d < N → fX0_lengthOf_b2 w N p (nI k) (nI i) = some (nI (tl k)) := by
  obtain ⟨⟨_, h0⟩, -⟩ := ct_tab hc
  have tf := tf hk
  intro d
  induction d with
  | zero =>
    intro N i h1 h2 h3
    obtain ⟨N, rfl⟩ : ∃ m, N = m + 1 := ⟨N - 1, by omega⟩
    have hi : i = tl k := by omega
    have hcu := cu_le i (by omega)
    have := (tf_u (show i ≤ 8 by omega) hk).mp (by omega)
    rw [fX0_lengthOf_b2, wr_rc h0, ct_upTo hc (by omega), Option.bind_some, if_pos (c := nI k < nI (cu i)) (nI_lt (by omega) (by omega)), ite_self, hi]
  | succ d ih =>
    intro N i h1 h2 h3
    obtain ⟨N, rfl⟩ : ∃ m, N = m + 1 := ⟨N - 1, by omega⟩
    have hcu := cu_le i (by omega)
    have : ¬ k < cu i := fun y => by have := (tf_u (show i ≤ 8 by omega) hk).mpr y; omega
    rw [fX0_lengthOf_b2, if_neg (by exact nI_ge (a := i) (b := 8) (by omega) (by omega)), wr_rc h0, ct_upTo hc (by omega), Option.bind_some, if_neg (nI_nlt (by omega) (by omega)), show nI i + 1 = nI (i + 1) from nI_1 i]
    exact ih N (i + 1) (by omega) (by omega) (by omega)
theorem ct_lenOf (hc : ws_C z w sz n A S kt_L kt_G kt_U (some p)) {k : Nat} (hk : k < 236) : fX0_lengthOf p (nI k) w = some (nI (tl k)) := by
  have tf := tf hk
  have := ct_lenL hc hk (tl k - 1) mg_N 1 (by omega) (by omega) (by unfold mg_N; omega)
  unfold fX0_lengthOf
  exact this
theorem ct_holdL (hc : ws_C z w sz n A S kt_L kt_G kt_U (some p)) {m a r : Nat} {q : Nat × Nat} (h8 : m ≤ 8) (h : w a = some (ws_turn q)) (ho : ws_ok q) (hr : r < 2 ^ 31) (x4 : Int32) (s : Nat) : ∀ d N c v, c + d = r → d < N → hs q m c v → ∃ v', fX3_holder_b53 N (nI m) (nI r) x4 a p v (nI c) w s = fX3_holder_b82 x4 p v' w s ∧ hs q m r v' := by
  obtain ⟨⟨_, h0⟩, -⟩ := ct_tab hc
  have hle := (cu_le m (by omega)).1
  intro d
  induction d with
  | zero =>
    intro N c v h1 h2 hv
    obtain ⟨N, rfl⟩ : ∃ m, N = m + 1 := ⟨N - 1, by omega⟩
    obtain rfl : c = r := by omega
    rw [fX3_holder_b53, if_pos (nI_le (by omega) (by omega))]
    exact ⟨v, rfl, hv⟩
  | succ d ih =>
    intro N c v h1 h2 hv
    obtain ⟨N, rfl⟩ : ∃ m, N = m + 1 := ⟨N - 1, by omega⟩
    rw [fX3_holder_b53, if_neg (nI_ge (by omega) (by omega))]
    rcases hv with ⟨rfl, hv⟩ | ⟨k, hk, rfl, hh, hv⟩
    · rw [if_pos (by decide)]
      exact ⟨-1, rfl, Or.inl ⟨rfl, by omega⟩⟩
    · obtain ⟨v', e, hv'⟩ := ct_next1 hc h8 h ho hk hh
      rw [if_neg (nI_pos (by omega)), wr_rc h0, e, Option.bind_some, show nI c + 1 = nI (c + 1) from nI_1 c]
      rw [hv] at hv'
      exact ih N (c + 1) v' (by omega) (by omega) hv'
def hA (x4 : Int32) (k : Nat) : Int32 := if x4 = 0 then nI (tl k) else nI k - nI (cu (tl k - 1))
theorem ct_b82 (hc : ws_C z w sz n A S kt_L kt_G kt_U (some p)) {k : Nat} (hk : k < 236) (x4 : Int32) (s : Nat) : fX3_holder_b82 x4 p (nI k) w s = some (hA x4 k, w, 0, 0) := by
  obtain ⟨⟨_, h0⟩, -⟩ := ct_tab hc
  have tf := tf hk
  unfold fX3_holder_b82 hA
  rw [if_pos (nI_pos' (by omega)), wr_rc h0, ct_lenOf hc hk, Option.bind_some, wr_rc h0, show nI (tl k) - 1 = nI (tl k - 1) from pk_sub (b := 1) (by omega), ct_upTo hc (by omega), Option.bind_some]
  by_cases c : x4 = 0
  · rw [if_pos c, if_pos c]
  · rw [if_neg c, if_neg c]
theorem mt_b146 (hm : ws_M z w n A S km_l km_s km_g) {k : Nat} (hk : k < 236) (x4 : Int32) : fX4_holder_b146 w (z + 4) x4 (nI k) = some (hA x4 k) := by
  obtain ⟨g3, g4, g5, g6, l7, l8, l9⟩ := mt_tab hm
  obtain ⟨_, hz4⟩ := mt_z hm
  have tf := tf hk
  unfold fX4_holder_b146 hA
  rw [g4, l7 k hk, Option.bind_some, g4, l7 k hk, Option.bind_some, wr_rc hz4, mt_first hm tf.1 tf.2.1, Option.bind_some]
  by_cases c : x4 = 0
  · rw [if_pos c, if_pos c]
  · rw [if_neg c, if_neg c]
end TJ
