/-! a new ANGLE -/
def ws_up (A : ws_A) (n : Nat) (q : Nat × Nat) : ws_A := fun k => if k = n then q else A k
def ws_Old (z sz : Nat) (w w2 : mg_H) : Prop := ∀ x, z + 14 ≤ x → x < sz → w2 x = w x
def ws_red (a b : Nat) : Nat × Nat := (a / Nat.gcd a b, b / Nat.gcd a b)
theorem ws_redok {a b : Nat} (h : a < b) (hG : nt_G (b / Nat.gcd a b)) : ws_ok (ws_red a b) := by
  have hg : 0 < Nat.gcd a b := Nat.gcd_pos_of_pos_right _ (by omega)
  refine ⟨?_, Nat.coprime_div_gcd_div_gcd hg, hG⟩
  obtain ⟨k, hk⟩ := Nat.gcd_dvd_right a b
  show a / Nat.gcd a b < b / Nat.gcd a b
  rw [Nat.div_lt_iff_lt_mul hg, Nat.div_mul_cancel (Nat.gcd_dvd_right a b)]
  exact h
theorem ws_rest {z : Nat} {w w2 : mg_H} {S : ws_S} {tL tG tU : Nat → Int32} {pa : Option Nat} {fS : Nat → Option Nat} (hk : ∀ a, z + 14 ≤ a → (∃ e, w a = some e) → w2 a = w a) (hS : ∀ k, k < 4 → ws_sheet w z (fS k) (S k)) (hd : ∀ i j c, i < 4 → j < 4 → ws_cell w (fS i) c → ws_cell w (fS j) c → i = j) (hp : ws_part w z tL tG tU pa) : (∀ k, k < 4 → ws_sheet w2 z (fS k) (S k)) ∧ (∀ i j c, i < 4 → j < 4 → ws_cell w2 (fS i) c → ws_cell w2 (fS j) c → i = j) ∧ ws_part w2 z tL tG tU pa := by
  refine ⟨fun k q => ws_sheetK hk (hS k q), fun i j c hi hj g1 g2 => ?_, ws_partK hk hp⟩
  have back : ∀ k, k < 4 → ws_cell w2 (fS k) c → ws_cell w (fS k) c := by
    intro k hk4 ⟨a, v, e1, e2⟩
    have := hS k hk4
    cases hSk : S k with
    | none => rw [hSk] at this; rw [show fS k = none from this] at e1; cases e1
    | some y =>
      rw [hSk] at this
      obtain ⟨a', c', f, g1, g2, g3, g4, -⟩ := this
      cases g1.symm.trans e1
      rw [hk _ g2 ⟨_, g4⟩] at e2
      exact ⟨a, v, e1, e2⟩
  exact hd i j c hi hj (back i hi g1) (back j hj g2)
theorem st_turnInit {w : mg_H} {p a b : Nat} {v0 v1 v2 v3 : Value} (hp : w p = some (.inl (2, [v0, v1, v2, v3]))) (hab : a < b) (hb : b < 2 ^ 31) (hG : nt_G (b / Nat.gcd a b)) : ∃ w2, fX2_init p (lN a) (lN b) w = some ((), w2) ∧ w2 p = some (ws_turn (ws_red a b)) ∧ ∀ x, x ≠ p → w2 x = w x := by
  have hg : 0 < Nat.gcd a b := Nat.gcd_pos_of_pos_right _ (by omega)
  have hgl : Nat.gcd a b ≤ b := Nat.le_of_dvd (by omega) (Nat.gcd_dvd_right _ _)
  have ok := ws_redok hab hG
  have hl := nt_Glt hG
  have hup : a / Nat.gcd a b < b / Nat.gcd a b := ok.1
  unfold fX2_init
  rw [st_shared (by omega) hb, Option.bind_some, st_over (by omega) hg (by omega), Option.bind_some, nu_i2n, wr_pI hp (by simp), Option.bind_some, st_over (by omega) hg (by omega), Option.bind_some, nu_i2n]
  generalize hW1 : mg_set w p _ = W1
  have h1 : W1 p = some (.inl (2, [.int (nI (a / Nat.gcd a b)), v1, v2, v3])) := by rw [← hW1, wr_set]; rfl
  have o1 : ∀ x, x ≠ p → W1 x = w x := fun x hx => by rw [← hW1, wr_ne hx]
  rw [wr_pI h1 (by simp), Option.bind_some]
  generalize hW2 : mg_set W1 p _ = W2
  have h2 : W2 p = some (.inl (2, [.int (nI (a / Nat.gcd a b)), .int (nI (b / Nat.gcd a b)), v2, v3])) := by rw [← hW2, wr_set]; rfl
  have o2 : ∀ x, x ≠ p → W2 x = w x := fun x hx => by rw [← hW2, wr_ne hx, o1 x hx]
  rw [wr_gI h2 rfl, Option.bind_some, st_twos hl.1 (by omega), Option.bind_some, wr_pI h2 (by simp), Option.bind_some]
  generalize hW3 : mg_set W2 p _ = W3
  have h3 : W3 p = some (.inl (2, [.int (nI (a / Nat.gcd a b)), .int (nI (b / Nat.gcd a b)), .int (nI (nt_T (b / Nat.gcd a b))), v3])) := by rw [← hW3, wr_set]; rfl
  have o3 : ∀ x, x ≠ p → W3 x = w x := fun x hx => by rw [← hW3, wr_ne hx, o2 x hx]
  have hT := (nt_TO hl.1 (show b / Nat.gcd a b < 2 ^ 22 by omega)).2.2
  rw [wr_gI h3 rfl, Option.bind_some, wr_rc h3, tu_afterG (wr_gI h3 rfl) (wr_gI h3 rfl) hup (by omega) (by omega), Option.bind_some, wr_gI h3 rfl, Option.bind_some, st_ringT (a := a / Nat.gcd a b) (b := b / Nat.gcd a b) ok.2.1 hG, Option.bind_some, wr_pI h3 (by simp), Option.bind_some]
  refine ⟨_, rfl, ?_, fun x hx => by rw [wr_ne hx, o3 x hx]⟩
  rw [wr_set]
  rfl
section KP
variable {z sz n : Nat} {w : mg_H} {A : ws_A} {S : ws_S} {tL tG tU pl : Nat → Int32} {ps pg : Nat → Int64} {pa : Option Nat}
theorem ct_keep (hc : ws_C z w sz n A S tL tG tU pa) {a b : Nat} (hab : a < b) (hb : b < 2 ^ 31) (hG : nt_G (b / Nat.gcd a b)) : (n = 16 ∧ fX3_keep z (lN a) (lN b) w sz = some (-3, w, 0, 0)) ∨ (n < 16 ∧ ∃ w2, fX3_keep z (lN a) (lN b) w sz = some (nI n, w2, 1, 4) ∧ ws_C z w2 (sz + 1) (n + 1) (ws_up A n (ws_red a b)) S tL tG tU pa ∧ ws_Fc z w w2 ∧ ws_Old z sz w w2) := by
  obtain ⟨fT, fS, fR, h0, h1, h2, h3, hn, hs, hz, hA, hS, hd, hp⟩ := hc
  unfold fX3_keep
  rw [wr_gI h0 rfl, Option.bind_some]
  by_cases c : n = 16
  · left
    refine ⟨c, ?_⟩
    subst c
    rw [if_neg (by decide)]
  · right
    refine ⟨by omega, ?_⟩
    have e0 := hz sz (Nat.le_refl _)
    have lt : ∀ a e, w a = some e → a < sz := fun a e h => by
      rcases Nat.lt_or_ge a sz with q | q
      · exact q
      · rw [hz a q] at h; cases h
    rw [if_pos (by exact nI_lt (b := 16) (by omega) (by omega)), wr_gN h0 rfl, Option.bind_some]
    unfold mg_nw
    generalize hW1 : mg_set w sz _ = W1
    have g1 : W1 sz = some (.inl (2, [.int 0, .int 0, .int 0, .int 0])) := by rw [← hW1, wr_set]
    have o1 : ∀ x, x ≠ sz → W1 x = w x := fun x hx => by rw [← hW1, wr_ne hx]
    obtain ⟨W2, e2, g2, o2⟩ := st_turnInit g1 hab hb hG
    dsimp only
    rw [e2]
    unfold mg_bS
    rw [Option.bind_some]
    have k1 : W2 (z + 1) = w (z + 1) := by rw [o2 _ (by omega), o1 _ (by omega)]
    have k0 : W2 z = w z := by rw [o2 _ (by omega), o1 _ (by omega)]
    show ∃ w2, mg_bmp 1 4 ((mg_stQ W2 3 2 (z + 1) (nI n) sz).bind _) = _ ∧ _
    rw [wr_stQ (k1.trans h1) g2 (by omega) (by omega), Option.bind_some]
    generalize hW3 : mg_set W2 (z + 1) _ = W3
    have k3 : W3 z = some (.inl (3, [.ref (z + 1), .ref (z + 2), .ref (z + 3), .int (nI n), va_rf pa])) := by rw [← hW3, wr_ne (by omega), k0]; exact h0
    rw [wr_gI k3 rfl, Option.bind_some, wr_pI k3 (by simp), Option.bind_some]
    generalize hW4 : mg_set W3 z _ = W4
    have k4 : W4 z = some (.inl (3, [.ref (z + 1), .ref (z + 2), .ref (z + 3), .int (nI (n + 1)), va_rf pa])) := by rw [← hW4, wr_set, ← nI_1 n]; rfl
    have k5 : W4 (z + 1) = some (.inr (3, 16, .inr (.inr (.inr (.inr (va_up fT n (some sz))))))) := by rw [← hW4, wr_ne (by omega), ← hW3, wr_set]
    have k6 : W4 sz = some (ws_turn (ws_red a b)) := by rw [← hW4, wr_ne (by omega), ← hW3, wr_ne (by omega), g2]
    have k7 : ∀ x, x ≠ z → x ≠ z + 1 → x ≠ sz → W4 x = w x := fun x q1 q2 q3 => by rw [← hW4, wr_ne q1, ← hW3, wr_ne q2, o2 x q3, o1 x q3]
    rw [wr_gI k4 rfl, Option.bind_some, show nI (n + 1) - 1 = nI n from nI_pred n]
    refine ⟨W4, rfl, ?_, fun x q1 q2 => k7 x (by omega) (by omega) (by omega), fun x q1 q2 => k7 x (by omega) (by omega) (by omega)⟩
    have hk : ∀ x, z + 14 ≤ x → (∃ e, w x = some e) → W4 x = w x := fun x q1 ⟨e, q2⟩ => k7 x (by omega) (by omega) (by have := lt x e q2; omega)
    obtain ⟨r1, r2, r3⟩ := ws_rest hk hS hd hp
    refine ⟨va_up fT n (some sz), fS, fR, k4, k5, by rw [k7 _ (by omega) (by omega) (by omega)]; exact h2, by rw [k7 _ (by omega) (by omega) (by omega)]; exact h3, by omega, by omega, fun x q => by rw [k7 x (by omega) (by omega) (by omega)]; exact hz x (by omega), fun k q => ?_, r1, r2, r3⟩
    by_cases d : k = n
    · subst d
      rw [show ws_up A k (ws_red a b) k = ws_red a b by simp [ws_up]]
      exact ⟨ws_redok hab hG, sz, by simp [va_up], by omega, k6⟩
    · rw [show ws_up A n (ws_red a b) k = A k by simp [ws_up, d]]
      obtain ⟨b1, x, b2, b3, b4⟩ := hA k (by omega)
      exact ⟨b1, x, by simp [va_up, d, b2], b3, by rw [hk x b3 ⟨_, b4⟩]; exact b4⟩
theorem mt_comesL {a b : Nat} (w : mg_H) (x : Nat) (A0 B0 : Int64) : ∀ (k c d : Nat), d < k → c < 2 ^ 62 → d < 2 ^ 62 → fX4_comes_b18 k x A0 B0 (lN c) (lN d) w = fX4_comes_b43 x A0 B0 (lN (Nat.gcd c d)) w := by
  intro k
  induction k with
  | zero => intro c d h; omega
  | succ k ih =>
    intro c d h hc hd
    rw [fX4_comes_b18]
    simp only [lg_cmp_eq]
    by_cases e : d = 0
    · subst e
      rw [if_pos (by rfl), Nat.gcd_zero_right]
    · rw [if_neg (nu_lz (by omega) (by omega)), if_neg (nu_lz (by omega) (by omega)), nu_rem (by omega) (by omega) (by omega)]
      have hm : c % d < d := Nat.mod_lt _ (by omega)
      rw [ih d (c % d) (by omega) hd (by omega), Nat.gcd_comm d, ← Nat.gcd_rec, Nat.gcd_comm]
theorem mt_comes (hm : ws_M z w n A S pl ps pg) {a b : Nat} (hab : a < b) (hb : b < 2 ^ 31) (hG : nt_G (b / Nat.gcd a b)) : (n = 16 ∧ fX4_comes (z + 4) (lN a) (lN b) w = some (-3, w)) ∨ (n < 16 ∧ ∃ w2, fX4_comes (z + 4) (lN a) (lN b) w = some (nI n, w2) ∧ ws_M z w2 (n + 1) (ws_up A n (ws_red a b)) S pl ps pg ∧ ws_Fm z w w2) := by
  obtain ⟨ft, fd, fh, fl, fs, fc, gl, gs, gg, h4, h5, h6, h7, h8, h9, h10, h11, h12, h13, hn, hA, hS, hT⟩ := hm
  unfold fX4_comes
  rw [wr_gI h4 rfl, Option.bind_some]
  by_cases c : n = 16
  · left
    refine ⟨c, ?_⟩
    subst c
    rw [if_pos (by decide)]
  · right
    refine ⟨by omega, ?_⟩
    have hg : 0 < Nat.gcd a b := Nat.gcd_pos_of_pos_right _ (by omega)
    have hgl : Nat.gcd a b ≤ b := Nat.le_of_dvd (by omega) (Nat.gcd_dvd_right _ _)
    rw [if_neg (show ¬ nI n = 16 from fun q => c ((nI_eq (b := 16) (by omega) (by omega)).mp q)), mt_comesL (a := a) (b := b) w (z + 4) (lN a) (lN b) mg_N a b (by unfold mg_N; omega) (by omega) (by omega)]
    unfold fX4_comes_b43
    rw [wr_gN h4 rfl, wr_gI h4 rfl, Option.bind_some, if_neg (nu_lz hg (by omega)), pk_lDiv (by omega) hg (by omega), wr_stL h5 (by omega) (by omega), Option.bind_some]
    generalize hW1 : mg_set w (z + 5) _ = W1
    have o1 : ∀ x, x ≠ z + 5 → W1 x = w x := fun x hx => by rw [← hW1, wr_ne hx]
    have i4 := (o1 (z + 4) (by omega)).trans h4
    rw [wr_gN i4 rfl, wr_gI i4 rfl, Option.bind_some, if_neg (nu_lz hg (by omega)), pk_lDiv (by omega) hg (by omega), wr_stL ((o1 (z + 6) (by omega)).trans h6) (by omega) (by omega), Option.bind_some]
    generalize hW2 : mg_set W1 (z + 6) _ = W2
    have o2 : ∀ x, x ≠ z + 5 → x ≠ z + 6 → W2 x = w x := fun x hx hy => by rw [← hW2, wr_ne hy, o1 x hx]
    have j4 := (o2 (z + 4) (by omega) (by omega)).trans h4
    rw [wr_gI j4 rfl, Option.bind_some, wr_pI j4 (by simp), Option.bind_some]
    generalize hW3 : mg_set W2 (z + 4) _ = W3
    have k4 : W3 (z + 4) = some (.inl (4, [.int (nI (n + 1)), .ref (z + 5), .ref (z + 6), .int (nI 236), .ref (z + 7), .ref (z + 8), .ref (z + 9), .ref (z + 10), .ref (z + 11), .ref (z + 12), .ref (z + 13)])) := by rw [← hW3, wr_set, ← nI_1 n]; rfl
    have k5 : W3 (z + 5) = some (.inr (2, 16, .inr (.inl (vp_updL ft n (lN (a / Nat.gcd a b)))))) := by rw [← hW3, wr_ne (by omega), ← hW2, wr_ne (by omega), ← hW1, wr_set]
    have k6 : W3 (z + 6) = some (.inr (2, 16, .inr (.inl (vp_updL fd n (lN (b / Nat.gcd a b)))))) := by rw [← hW3, wr_ne (by omega), ← hW2, wr_set]
    have k7 : ∀ x, x ≠ z + 4 → x ≠ z + 5 → x ≠ z + 6 → W3 x = w x := fun x q1 q2 q3 => by rw [← hW3, wr_ne q1, o2 x q2 q3]
    rw [wr_gI k4 rfl, Option.bind_some, show nI (n + 1) - 1 = nI n from nI_pred n]
    refine ⟨W3, rfl, ?_, fun x q => k7 x (by omega) (by omega) (by omega)⟩
    refine ⟨_, _, fh, fl, fs, fc, gl, gs, gg, k4, k5, k6, by rw [k7 _ (by omega) (by omega) (by omega)]; exact h7, by rw [k7 _ (by omega) (by omega) (by omega)]; exact h8, by rw [k7 _ (by omega) (by omega) (by omega)]; exact h9, by rw [k7 _ (by omega) (by omega) (by omega)]; exact h10, by rw [k7 _ (by omega) (by omega) (by omega)]; exact h11, by rw [k7 _ (by omega) (by omega) (by omega)]; exact h12, by rw [k7 _ (by omega) (by omega) (by omega)]; exact h13, by omega, fun k q => ?_, hS, hT⟩
    by_cases d : k = n
    · subst d
      rw [show ws_up A k (ws_red a b) k = ws_red a b by simp [ws_up]]
      exact ⟨ws_redok hab hG, by simp [vp_updL, ws_red], by simp [vp_updL, ws_red]⟩
    · rw [show ws_up A n (ws_red a b) k = A k by simp [ws_up, d]]
      obtain ⟨b1, b2, b3⟩ := hA k (by omega)
      exact ⟨b1, by simp [vp_updL, d, b2], by simp [vp_updL, d, b3]⟩
end KP
