theorem nu_ite {c d : Prop} [Decidable c] [Decidable d] {α : Type} {x y : α} (h : c ↔ d) : (if c then x else y) = if d then x else y := by
  by_cases q : c
  · rw [if_pos q, if_pos (h.mp q)]
  · rw [if_neg q, if_neg (fun z => q (h.mpr z))]
theorem st_inI {x : Int32} {A B : Int64} {a b : Int} (hA : A.toInt = a) (hB : B.toInt = b) : fX4_in x.toInt64 A B = some (if a ≤ x.toInt ∧ x.toInt ≤ b then 1 else 0) := by
  rw [st_in]
  congr 1
  exact nu_ite (by rw [Int64.le_iff_toInt_le, Int64.le_iff_toInt_le, Int32.toInt_toInt64, hA, hB])
theorem st_isDoublings (x : Int32) : fX3_isDoublings x = some (if 0 ≤ x.toInt ∧ x.toInt ≤ 100 then 1 else 0) := by
  unfold fX3_isDoublings
  simp only [Int32.lt_iff_toInt_lt]
  have e0 : (0 : Int32).toInt = 0 := rfl
  have e1 : (100 : Int32).toInt = 100 := rfl
  rw [e0, e1]
  by_cases c : x.toInt < 0
  · rw [if_pos c, if_neg (by omega)]
  · rw [if_neg c]
    by_cases d : 100 < x.toInt
    · rw [if_pos d, if_neg (by omega)]
    · rw [if_neg d, if_pos (by omega)]
theorem st_isLength (x : Int32) : fX3_isLength x = some (if 1 ≤ x.toInt ∧ x.toInt ≤ 20 then 1 else 0) := by
  unfold fX3_isLength
  simp only [Int32.lt_iff_toInt_lt]
  have e0 : (1 : Int32).toInt = 1 := rfl
  have e1 : (20 : Int32).toInt = 20 := rfl
  rw [e0, e1]
  by_cases c : x.toInt < 1
  · rw [if_pos c, if_neg (by omega)]
  · rw [if_neg c]
    by_cases d : 20 < x.toInt
    · rw [if_pos d, if_neg (by omega)]
    · rw [if_neg d, if_pos (by omega)]
theorem st_isPairedLength (x : Int32) : fX3_isPairedLength x = some (if 1 ≤ x.toInt ∧ x.toInt ≤ 8 then 1 else 0) := by
  unfold fX3_isPairedLength
  simp only [Int32.lt_iff_toInt_lt]
  have e0 : (1 : Int32).toInt = 1 := rfl
  have e1 : (8 : Int32).toInt = 8 := rfl
  rw [e0, e1]
  by_cases c : x.toInt < 1
  · rw [if_pos c, if_neg (by omega)]
  · rw [if_neg c]
    by_cases d : 8 < x.toInt
    · rw [if_pos d, if_neg (by omega)]
    · rw [if_neg d, if_pos (by omega)]
theorem st_isEither (x : Int32) : fX3_isEither x = some (if 0 ≤ x.toInt ∧ x.toInt ≤ 1 then 1 else 0) := by
  unfold fX3_isEither
  have e0 : (0 : Int32).toInt = 0 := rfl
  have e1 : (1 : Int32).toInt = 1 := rfl
  by_cases c : x = 0
  · subst c; rfl
  · rw [if_neg c]
    by_cases d : x = 1
    · subst d; rfl
    · rw [if_neg d, if_neg (fun q => ?_)]
      have g0 : ¬ x.toInt = 0 := fun z => c (Int32.toInt_inj.mp (z.trans e0.symm))
      have g1 : ¬ x.toInt = 1 := fun z => d (Int32.toInt_inj.mp (z.trans e1.symm))
      omega
theorem st_isSheet (x : Int32) : fX3_isSheet x = some (if 0 ≤ x.toInt ∧ x.toInt ≤ 3 then 1 else 0) := by
  unfold fX3_isSheet
  simp only [Int32.lt_iff_toInt_lt, Int32.le_iff_toInt_le]
  have e0 : (0 : Int32).toInt = 0 := rfl
  have e1 : (4 : Int32).toInt = 4 := rfl
  rw [e0, e1]
  by_cases c : x.toInt < 0
  · rw [if_pos c, if_neg (by omega)]
  · rw [if_neg c]
    by_cases d : 4 ≤ x.toInt
    · rw [if_pos d, if_neg (by omega)]
    · rw [if_neg d, if_pos (by omega)]
theorem st_isLane (x : Int32) : fX3_isLane x = some (if 0 ≤ x.toInt ∧ x.toInt ≤ 1 then 1 else 0) := st_isEither x
/-! an ANGLE's number -/
section AT
variable {z sz n : Nat} {w : mg_H} {A : ws_A} {S : ws_S} {tL tG tU pl : Nat → Int32} {ps pg : Nat → Int64} {pa : Option Nat}
theorem ct_bad (h : ws_C z w sz n A S tL tG tU pa) {x : Int32} (hx : x < 0 ∨ nI n ≤ x) : fX3_turnAt z x w = some none := by
  obtain ⟨fT, fS, fR, h0, h1, h2, h3, hn, hs, hz, hA, hS, hd, hp⟩ := h
  unfold fX3_turnAt
  by_cases c : x < 0
  · rw [if_pos c]
  · rw [if_neg c, wr_gI h0 rfl, Option.bind_some, if_pos (hx.resolve_left c)]
theorem ct_at (h : ws_C z w sz n A S tL tG tU pa) {k : Nat} (hk : k < n) : ∃ a, fX3_turnAt z (nI k) w = some (some a) ∧ z + 14 ≤ a ∧ w a = some (ws_turn (A k)) := by
  obtain ⟨fT, fS, fR, h0, h1, h2, h3, hn, hs, hz, hA, hS, hd, hp⟩ := h
  obtain ⟨b1, a, b2, b3, b4⟩ := hA k hk
  refine ⟨a, ?_, b3, b4⟩
  unfold fX3_turnAt
  rw [if_neg (nI_pos (by omega)), wr_gI h0 rfl, Option.bind_some, if_neg (nI_ge hk (by omega)), wr_gN h0 rfl, wr_ldQ h1 (by omega) (by omega), b2]
  rfl
theorem ct_n (h : ws_C z w sz n A S tL tG tU pa) : n ≤ 16 := by
  obtain ⟨fT, fS, fR, h0, h1, h2, h3, hn, -⟩ := h
  exact hn
theorem ct_ok (h : ws_C z w sz n A S tL tG tU pa) {k : Nat} (hk : k < n) : ws_ok (A k) := by
  obtain ⟨fT, fS, fR, h0, h1, h2, h3, hn, hs, hz, hA, -⟩ := h
  exact (hA k hk).1
theorem ct_z (h : ws_C z w sz n A S tL tG tU pa) : ∃ fs, w z = some (.inl (3, fs)) := by
  obtain ⟨fT, fS, fR, h0, -⟩ := h
  exact ⟨_, h0⟩
theorem mt_z (h : ws_M z w n A S pl ps pg) : ∃ fs, w (z + 4) = some (.inl (4, fs)) := by
  obtain ⟨ft, fd, fh, fl, fs, fc, gl, gs, gg, h4, -⟩ := h
  exact ⟨_, h4⟩
theorem nu_pred {n : Nat} (hn : n ≤ 16) : (nI n - 1).toInt64.toInt = (n : Int) - 1 := by
  rw [Int32.toInt_toInt64]
  exact pk_sub_toInt (b := 1) (by omega) (by omega)
theorem mt_is (h : ws_M z w n A S pl ps pg) (x : Int32) : fX4_isAngle (z + 4) x w = some (if 0 ≤ x.toInt ∧ x.toInt ≤ (n : Int) - 1 then 1 else 0) := by
  obtain ⟨ft, fd, fh, fl, fs, fc, gl, gs, gg, h4, h5, h6, h7, h8, h9, h10, h11, h12, h13, hn, -⟩ := h
  unfold fX4_isAngle
  rw [wr_gI h4 rfl, Option.bind_some, st_inI (a := 0) rfl (nu_pred hn), Option.bind_some]
  split <;> rfl
theorem mt_bad (h : ws_M z w n A S pl ps pg) {x : Int32} (hx : x < 0 ∨ nI n ≤ x) : fX4_isAngle (z + 4) x w = some 0 := by
  have hn : n ≤ 16 := by
    obtain ⟨ft, fd, fh, fl, fs, fc, gl, gs, gg, h4, h5, h6, h7, h8, h9, h10, h11, h12, h13, hn, -⟩ := h
    exact hn
  rw [mt_is h, if_neg]
  intro q
  rcases hx with hx | hx
  · rw [Int32.lt_iff_toInt_lt] at hx
    have e0 : (0 : Int32).toInt = 0 := rfl
    omega
  · rw [Int32.le_iff_toInt_le, nI_toInt (by omega)] at hx
    omega
theorem mt_at (h : ws_M z w n A S pl ps pg) {k : Nat} (hk : k < n) : fX4_isAngle (z + 4) (nI k) w = some 1 ∧ (∀ {ρ : Type} (K : Nat → Option ρ), mg_gN w 4 (z + 4) 1 K = K (z + 5)) ∧ (∀ {ρ : Type} (K : Nat → Option ρ), mg_gN w 4 (z + 4) 2 K = K (z + 6)) ∧ mg_ldL w (z + 5) (nI k) = some (lN (A k).1) ∧ mg_ldL w (z + 6) (nI k) = some (lN (A k).2) := by
  have hi := mt_is h (nI k)
  obtain ⟨ft, fd, fh, fl, fs, fc, gl, gs, gg, h4, h5, h6, h7, h8, h9, h10, h11, h12, h13, hn, hA, -⟩ := h
  obtain ⟨b1, b2, b3⟩ := hA k hk
  refine ⟨?_, fun K => wr_gN h4 rfl, fun K => wr_gN h4 rfl, by rw [wr_ldL h5 (by omega) (by omega), b2], by rw [wr_ldL h6 (by omega) (by omega), b3]⟩
  rw [hi, if_pos]
  rw [nI_toInt (by omega)]
  omega
end AT
/-! a TURN's numbers -/
theorem tu_g {w : mg_H} {a : Nat} {q : Nat × Nat} (h : w a = some (ws_turn q)) : mg_gI w 2 a 0 = some (nI q.1) ∧ mg_gI w 2 a 1 = some (nI q.2) ∧ mg_gI w 2 a 2 = some (nI (nt_T q.2)) ∧ mg_gI w 2 a 3 = some (nI (nt_L q.2)) := ⟨wr_gI h rfl, wr_gI h rfl, wr_gI h rfl, wr_gI h rfl⟩
theorem tu_rc {ρ : Type} {w : mg_H} {a : Nat} {q : Nat × Nat} {F : Option ρ} (h : w a = some (ws_turn q)) : mg_rc w 2 a F = F := wr_rc h
theorem tu_afterL {w : mg_H} {a : Nat} {b u m : Nat} (h1 : mg_gI w 2 a 1 = some (nI b)) (hb : 0 < b) (hb2 : b < 2 ^ 30) (hm : m < 2 ^ 31) : ∀ (d n i : Nat), i + d = m → d < n → fX2_upAfter_b7 w n a (nI m) (nI (u * 2 ^ i % b)) (nI i) = some (nI (u * 2 ^ m % b)) := by
  intro d
  induction d with
  | zero =>
    intro n i h2 h3
    obtain ⟨n, rfl⟩ : ∃ z, n = z + 1 := ⟨n - 1, by omega⟩
    have e : i = m := by omega
    subst e
    rw [fX2_upAfter_b7, if_pos (nI_le (Nat.le_refl _) hm)]
  | succ d ih =>
    intro n i h2 h3
    obtain ⟨n, rfl⟩ : ∃ z, n = z + 1 := ⟨n - 1, by omega⟩
    rw [fX2_upAfter_b7, if_neg (nI_ge (by omega) (by omega)), h1, Option.bind_some, st_twice (Nat.mod_lt _ hb) hb2, Option.bind_some, show nI i + 1 = nI (i + 1) from nI_1 i, show 2 * (u * 2 ^ i % b) % b = u * 2 ^ (i + 1) % b by rw [Nat.mul_mod_mod, Nat.pow_succ, Nat.mul_comm 2, Nat.mul_assoc]]
    exact ih n (i + 1) (by omega) (by omega)
theorem tu_afterG {w : mg_H} {a : Nat} {b u m : Nat} (h0 : mg_gI w 2 a 0 = some (nI u)) (h1 : mg_gI w 2 a 1 = some (nI b)) (hu : u < b) (hb2 : b < 2 ^ 30) (hm : m < 2 ^ 31) : fX2_upAfter a (nI m) w = some (nI (u * 2 ^ m % b)) := by
  unfold fX2_upAfter
  rw [h0, Option.bind_some]
  have := tu_afterL (u := u) h1 (by omega) hb2 hm m mg_N 0 (by omega) (by unfold mg_N; omega)
  rw [Nat.pow_zero, Nat.mul_one, Nat.mod_eq_of_lt hu] at this
  exact this
theorem tu_after {w : mg_H} {a m : Nat} {q : Nat × Nat} (h : w a = some (ws_turn q)) (ho : ws_ok q) (hm : m < 2 ^ 31) : fX2_upAfter a (nI m) w = some (nI (q.1 * 2 ^ m % q.2)) := by
  have hl := nt_Glt ho.2.2
  exact tu_afterG (tu_g h).1 (tu_g h).2.1 ho.1 (by omega) hm
theorem tu_back {w : mg_H} {a : Nat} {q : Nat × Nat} (h : w a = some (ws_turn q)) (ho : ws_ok q) : fX2_comesBack a w = some (if q.2 % 2 = 1 then 1 else 0) := by
  have hl := nt_Glt ho.2.2
  have hT := nt_TO hl.1 (show q.2 < 2 ^ 22 by omega)
  unfold fX2_comesBack
  rw [(tu_g h).2.2.1, Option.bind_some]
  by_cases c : q.2 % 2 = 1
  · rw [if_pos c, (nt_Todd hl.1 (by omega)).mpr c, if_pos nI_0]
  · rw [if_neg c, if_neg (nI_ne0 (Nat.pos_of_ne_zero fun z => c ((nt_Todd hl.1 (by omega)).mp z)) (by omega))]
theorem nu_sg0 (a b : Nat) : nu_sg a b = 0 ↔ a = b := by
  unfold nu_sg
  by_cases c : a < b
  · rw [if_pos c]; exact ⟨fun q => absurd q (by decide), fun q => by omega⟩
  · rw [if_neg c]
    by_cases d : b < a
    · rw [if_pos d]; exact ⟨fun q => absurd q (by decide), fun q => by omega⟩
    · rw [if_neg d]; exact ⟨fun q => by omega, fun q => rfl⟩
theorem nu_sgle (a b : Nat) : nu_sg a b ≤ 0 ↔ a ≤ b := by
  unfold nu_sg
  by_cases c : a < b
  · rw [if_pos c]; exact ⟨fun q => by omega, fun q => by decide⟩
  · rw [if_neg c]
    by_cases d : b < a
    · rw [if_pos d]; exact ⟨fun q => absurd q (by decide), fun q => by omega⟩
    · rw [if_neg d]; exact ⟨fun q => by omega, fun q => by decide⟩
theorem nu_sgge (a b : Nat) : 0 ≤ nu_sg a b ↔ b ≤ a := by
  unfold nu_sg
  by_cases c : a < b
  · rw [if_pos c]; exact ⟨fun q => absurd q (by decide), fun q => by omega⟩
  · rw [if_neg c]
    by_cases d : b < a
    · rw [if_pos d]; exact ⟨fun q => by omega, fun q => by decide⟩
    · rw [if_neg d]; exact ⟨fun q => by omega, fun q => by decide⟩
theorem tu_letter {w : mg_H} {t a b : Nat} {q : Nat × Nat} (h : w t = some (ws_turn q)) (ho : ws_ok q) (ha : a < 2 ^ 20) (hb : b < 2 ^ 20) : fX2_letterOf t (nI a) (nI b) w = some (nI (nt_S a b q.1 q.2)) := by
  have hl := nt_Glt ho.2.2
  have hq := ho.1
  obtain ⟨c, d⟩ := q
  have hl : 0 < d ∧ d < 2 ^ 20 := hl
  have hq : c < d := hq
  obtain ⟨h1, h2, h3⟩ := nu_bnd ha hb (show c < 2 ^ 20 by omega) hl.2
  obtain ⟨g0, g1, -⟩ := tu_g h
  have g0 : mg_gI w 2 t 0 = some (nI c) := g0
  have g1 : mg_gI w 2 t 1 = some (nI d) := g1
  show _ = some (nI (nt_S a b c d))
  unfold fX2_letterOf nt_S
  simp only [g0, g1, Option.bind_some, nI_l (show a < 2 ^ 31 by omega), nI_l (show b < 2 ^ 31 by omega), nI_l (show c < 2 ^ 31 by omega), nI_l (show d < 2 ^ 31 by omega), nu_2L, lN_mul, lN_add]
  rw [st_order (by omega) (by omega), Option.bind_some, st_order (by omega) (by omega), Option.bind_some]
  generalize 2 * a * d = x at *
  generalize c * b = y at *
  generalize (c + d) * b = u at *
  simp only [nu_sg0, nu_sgle, nu_sgge]
  by_cases c1 : x = y
  · rw [if_pos c1, if_pos (Or.inl c1)]; rfl
  · rw [if_neg c1]
    by_cases c2 : x = u
    · rw [if_pos c2, if_pos (Or.inr c2)]; rfl
    · rw [if_neg c2, if_neg (show ¬ (x = y ∨ x = u) by omega)]
      by_cases c3 : x ≤ y
      · rw [if_pos c3, if_neg (show ¬ (y < x ∧ x < u) by omega)]; rfl
      · rw [if_neg c3]
        by_cases c4 : u ≤ x
        · rw [if_pos c4, if_neg (show ¬ (y < x ∧ x < u) by omega)]; rfl
        · rw [if_neg c4, if_pos (show y < x ∧ x < u by omega)]; rfl
theorem tu_against {w : mg_H} {t u : Nat} {q r : Nat × Nat} (h : w t = some (ws_turn q)) (ho : ws_ok q) (h2 : w u = some (ws_turn r)) (ho2 : ws_ok r) : fX2_against t u w = some (nu_sg (q.1 * r.2) (r.1 * q.2)) := by
  have hl := nt_Glt ho.2.2
  have hl2 := nt_Glt ho2.2.2
  have hq := ho.1
  have hr := ho2.1
  unfold fX2_against
  simp only [(tu_g h).1, (tu_g h).2.1, (tu_g h2).1, (tu_g h2).2.1, Option.bind_some, nI_l (show q.1 < 2 ^ 31 by omega), nI_l (show q.2 < 2 ^ 31 by omega), nI_l (show r.1 < 2 ^ 31 by omega), nI_l (show r.2 < 2 ^ 31 by omega), lN_mul]
  rw [st_order (Nat.lt_trans (nu_mul (by omega) (by omega)) (by omega)) (Nat.lt_trans (nu_mul (by omega) (by omega)) (by omega))]
  rfl
