/-! reading the tables -/
section TR
variable {z sz n : Nat} {w : mg_H} {A : ws_A} {S : ws_S} {pa : Option Nat} {p : Nat}
theorem ct_tab (hc : ws_C z w sz n A S kt_L kt_G kt_U (some p)) : (∃ fs, w p = some (.inl (0, fs))) ∧ mg_gI w 0 p 3 = some (nI 236) ∧ (∀ {ρ : Type} (K : Nat → Option ρ), mg_gN w 0 p 0 K = K (p + 1)) ∧ (∀ {ρ : Type} (K : Nat → Option ρ), mg_gN w 0 p 1 K = K (p + 2)) ∧ (∀ {ρ : Type} (K : Nat → Option ρ), mg_gN w 0 p 2 K = K (p + 3)) ∧ (∀ k, k < 236 → mg_ldI w 0 (p + 1) (nI k) = some (nI (tL k))) ∧ (∀ k, k < 236 → mg_ldI w 0 (p + 2) (nI k) = some (nI (tG k))) ∧ (∀ k, k < 9 → mg_ldI w 0 (p + 3) (nI k) = some (nI (cu k))) ∧ mg_len w (p + 3) = some (nI 9) := by
  obtain ⟨fT, fS, fR, h0, h1, h2, h3, hn, hs, hz, hA, hS, hd, hp⟩ := hc
  obtain ⟨-, q0, ⟨f, q1, e1⟩, ⟨g, q2, e2⟩, u, q3, e3⟩ := hp p rfl
  have hg : ∀ k, k < 236 → ctb.getD k (0, 0) = (tL k, tG k) := by
    intro k hk
    have hk2 : k < tb.length := by rw [tb_len]; exact hk
    unfold ctb tL tG tt tw tl ts tg
    rw [List.getD_eq_getElem?_getD, List.getElem?_map, List.getD_eq_getElem?_getD, List.getElem?_eq_getElem hk2]
    rfl
  refine ⟨⟨_, q0⟩, wr_gI q0 rfl, fun K => wr_gN q0 rfl, fun K => wr_gN q0 rfl, fun K => wr_gN q0 rfl, fun k hk => ?_, fun k hk => ?_, fun k hk => ?_, wr_len q3 (by omega)⟩
  · rw [wr_ldI q1 hk (by omega), e1 k hk, kt_L, hg k hk]
  · rw [wr_ldI q2 hk (by omega), e2 k hk, kt_G, hg k hk]
  · rw [wr_ldI q3 hk (by omega), e3 k hk]; rfl
theorem mt_tab (hm : ws_M z w n A S km_l km_s km_g) : mg_gI w 4 (z + 4) 3 = some (nI 236) ∧ (∀ {ρ : Type} (K : Nat → Option ρ), mg_gN w 4 (z + 4) 4 K = K (z + 7)) ∧ (∀ {ρ : Type} (K : Nat → Option ρ), mg_gN w 4 (z + 4) 5 K = K (z + 8)) ∧ (∀ {ρ : Type} (K : Nat → Option ρ), mg_gN w 4 (z + 4) 6 K = K (z + 9)) ∧ (∀ k, k < 236 → mg_ldI w 0 (z + 7) (nI k) = some (nI (tl k))) ∧ (∀ k, k < 236 → mg_ldL w (z + 8) (nI k) = some (lN (ts k))) ∧ ∀ k, k < 236 → mg_ldL w (z + 9) (nI k) = some (lN (tg k)) := by
  obtain ⟨ft, fd, fh, fl, fs, fc, gl, gs, gg, h4, h5, h6, h7, h8, h9, h10, h11, h12, h13, hn, hA, hS, hT⟩ := hm
  refine ⟨wr_gI h4 rfl, fun K => wr_gN h4 rfl, fun K => wr_gN h4 rfl, fun K => wr_gN h4 rfl, fun k hk => ?_, fun k hk => ?_, fun k hk => ?_⟩
  · rw [wr_ldI h7 (by omega) (by omega), (hT k hk).1]; rfl
  · rw [wr_ldL h8 (by omega) (by omega), (hT k hk).2.1]; rfl
  · rw [wr_ldL h9 (by omega) (by omega), (hT k hk).2.2]; rfl
theorem ct_made (hc : ws_C z w sz n A S kt_L kt_G kt_U (some p)) {k : Nat} (hk : k < 236) : fX0_isMade p (nI k) w = some 1 := by
  obtain ⟨-, g3, -⟩ := ct_tab hc
  unfold fX0_isMade
  rw [if_neg (nI_pos (by omega)), g3, Option.bind_some, if_neg (nI_ge hk (by omega))]
theorem ct_unmade : fX0_isMade p (-1) w = some 0 := by
  unfold fX0_isMade
  rw [if_pos (by decide)]
theorem ct_upTo (hc : ws_C z w sz n A S kt_L kt_G kt_U (some p)) {k : Nat} (hk : k ≤ 8) : fX0_amountUpTo p (nI k) w = some (nI (cu k)) := by
  obtain ⟨-, g3, -, -, g2, -, -, l3, len⟩ := ct_tab hc
  unfold fX0_amountUpTo
  by_cases c : k = 0
  · subst c; rw [if_pos (by decide)]; rfl
  · rw [if_neg (by exact nI_nlt (a := k) (b := 1) (by omega) (by omega)), g2, len, Option.bind_some, if_neg (nI_ge (by omega) (by omega)), g2, l3 k (by omega), Option.bind_some]
/-- a PAIR HOLDS an ANGLE -/
def tH (k : Nat) (q : Nat × Nat) : Bool := decide (ts k * q.2 ≤ q.1 * tw k ∧ q.1 * tw k ≤ tg k * q.2)
/-- a PAIR HOLDS another, or is it -/
def tP (i j : Nat) : Bool := decide (ts i * tw j ≤ ts j * tw i ∧ tg j * tw i ≤ tg i * tw j)
theorem nu_m4 {a b : Nat} (ha : a < 2 ^ 25) (hb : b < 2 ^ 25) : a * b < 2 ^ 63 := by
  have : a * b ≤ 2 ^ 25 * 2 ^ 25 := Nat.mul_le_mul (by omega) (by omega)
  omega
theorem ct_holdsT (hc : ws_C z w sz n A S kt_L kt_G kt_U (some p)) {k a : Nat} {q : Nat × Nat} (hk : k < 236) (h : w a = some (ws_turn q)) (ho : ws_ok q) : fX0_holdsTurn p (nI k) a w = some (if tH k q then 1 else 0) := by
  obtain ⟨⟨_, h0⟩, g3, g0, g1, g2, l1, l2, l3, len⟩ := ct_tab hc
  have hl := nt_Glt ho.2.2
  have hq := ho.1
  have hb := tG_lt hk
  obtain ⟨t0, t1, -⟩ := tu_g h
  unfold fX0_holdsTurn
  rw [t0, Option.bind_some, wr_rc h0, ct_made hc hk, Option.bind_some, if_neg (by decide), g0, l1 k hk, Option.bind_some, t1, Option.bind_some, g1, l2 k hk, Option.bind_some, Option.bind_some, nI_l (by omega), nI_l (by omega), nI_l (by omega), nI_l (by omega)]
  rw [show (21082635 : Int64) = lN 21082635 from rfl, lN_mul, lN_mul, lN_mul, nu_ite ((lg_cmp_gt _ _).trans (pk_lLT (nu_m4 (by omega) (by omega)) (nu_m4 (by omega) (by omega)))), nu_ite ((lg_cmp_gt _ _).trans (pk_lLT (nu_m4 (by omega) (by omega)) (nu_m4 (by omega) (by omega))))]
  obtain ⟨e1, -⟩ := tp_leU (x := ts k) (u := q.1) (b := q.2) hk
  obtain ⟨-, e2⟩ := tp_leU (x := tg k) (u := q.1) (b := q.2) hk
  unfold tH tL tG
  by_cases c1 : ts k * q.2 ≤ q.1 * tw k
  · have := e1.mpr c1
    rw [if_neg (show ¬ q.1 * 21082635 < ts k * tt k * q.2 by omega)]
    by_cases c2 : q.1 * tw k ≤ tg k * q.2
    · have := e2.mpr c2
      rw [if_neg (show ¬ tg k * tt k * q.2 < q.1 * 21082635 by omega), if_pos (decide_eq_true ⟨c1, c2⟩)]
    · have : ¬ q.1 * 21082635 ≤ tg k * tt k * q.2 := fun z => c2 (e2.mp z)
      rw [if_pos (show tg k * tt k * q.2 < q.1 * 21082635 by omega), if_neg (fun z => c2 (of_decide_eq_true z).2)]
  · have : ¬ ts k * tt k * q.2 ≤ q.1 * 21082635 := fun z => c1 (e1.mp z)
    rw [if_pos (show q.1 * 21082635 < ts k * tt k * q.2 by omega), if_neg (fun z => c1 (of_decide_eq_true z).1)]
theorem mt_holdsT (hm : ws_M z w n A S km_l km_s km_g) {k i : Nat} (hk : k < 236) (hi : i < n) : fX4_holdsAngle (z + 4) (nI k) (nI i) w = some (if tH k (A i) then 1 else 0) := by
  obtain ⟨g3, g4, g5, g6, l7, l8, l9⟩ := mt_tab hm
  obtain ⟨-, f1, f2, l5, l6⟩ := mt_at hm hi
  have ho := mt_ok hm hi
  have hl := nt_Glt ho.2.2
  have hq := ho.1
  have tf := tf hk
  have tb := tw_bnd hk
  unfold fX4_holdsAngle
  simp only [g4, g5, g6, f1, f2, l5, l6, l7 k hk, l8 k hk, l9 k hk, Option.bind_some, st_whole (tl k) (by omega), show lN (2 ^ tl k - 1) = lN (tw k) from rfl]
  rw [st_below (nu_m4 (by omega) (by omega)) (nu_m4 (by omega) (by omega)), Option.bind_some, st_below (nu_m4 (by omega) (by omega)) (nu_m4 (by omega) (by omega)), Option.bind_some, nu_sel, nu_sel]
  unfold tH
  by_cases c1 : (A i).1 * tw k < ts k * (A i).2
  · rw [if_pos c1, if_neg (fun z => by have := (of_decide_eq_true z).1; omega)]
  · rw [if_neg c1]
    by_cases c2 : tg k * (A i).2 < (A i).1 * tw k
    · rw [if_pos c2, if_neg (fun z => by have := (of_decide_eq_true z).2; omega)]
    · rw [if_neg c2, if_pos (decide_eq_true ⟨by omega, by omega⟩)]
theorem ct_holdsP (hc : ws_C z w sz n A S kt_L kt_G kt_U (some p)) {i j : Nat} (hi : i < 236) (hj : j < 236) : fX0_holdsPair p (nI i) (nI j) w = some (if tP i j then 1 else 0) := by
  obtain ⟨⟨_, h0⟩, g3, g0, g1, g2, l1, l2, l3, len⟩ := ct_tab hc
  have hb := tG_lt hi
  have hb2 := tG_lt hj
  unfold fX0_holdsPair
  simp only [wr_rc h0, ct_made hc hi, ct_made hc hj, Option.bind_some, if_neg (show ¬ (1 : Int32) = 0 by decide), g0, g1, l1 i hi, l1 j hj, l2 i hi, l2 j hj]
  have e1 := tp_le (x := ts i) (y := ts j) hi hj
  have e2 := tp_le (x := tg j) (y := tg i) hj hi
  rw [nu_ite (nI_ltI (by omega) (by omega)), nu_ite (nI_ltI (by omega) (by omega))]
  unfold tP
  by_cases c1 : ts i * tw j ≤ ts j * tw i
  · have q1 := e1.mpr c1
    rw [if_neg (show ¬ tL j < tL i by unfold tL; omega)]
    by_cases c2 : tg j * tw i ≤ tg i * tw j
    · have q2 := e2.mpr c2
      rw [if_neg (show ¬ tG i < tG j by unfold tG; omega), if_pos (decide_eq_true ⟨c1, c2⟩)]
    · have q2 : ¬ tg j * tt j ≤ tg i * tt i := fun z => c2 (e2.mp z)
      rw [if_pos (show tG i < tG j by unfold tG; omega), if_neg (fun z => c2 (of_decide_eq_true z).2)]
  · have q1 : ¬ ts i * tt i ≤ ts j * tt j := fun z => c1 (e1.mp z)
    rw [if_pos (show tL j < tL i by unfold tL; omega), if_neg (fun z => c1 (of_decide_eq_true z).1)]
theorem mt_holdsP (hm : ws_M z w n A S km_l km_s km_g) {i j : Nat} (hi : i < 236) (hj : j < 236) : fX4_isOrHolds (z + 4) (nI i) (nI j) w = some (if tP i j then 1 else 0) := by
  obtain ⟨g3, g4, g5, g6, l7, l8, l9⟩ := mt_tab hm
  have fi := tf hi
  have fj := tf hj
  have bi := tw_bnd hi
  have bj := tw_bnd hj
  unfold fX4_isOrHolds
  simp only [g4, g5, g6, l7 i hi, l8 i hi, l9 i hi, l7 j hj, l8 j hj, l9 j hj, Option.bind_some, st_whole (tl i) (by omega), st_whole (tl j) (by omega), show lN (2 ^ tl i - 1) = lN (tw i) from rfl, show lN (2 ^ tl j - 1) = lN (tw j) from rfl]
  rw [st_below (nu_m4 (by omega) (by omega)) (nu_m4 (by omega) (by omega)), Option.bind_some, st_below (nu_m4 (by omega) (by omega)) (nu_m4 (by omega) (by omega)), Option.bind_some, nu_sel, nu_sel]
  unfold tP
  by_cases c1 : ts j * tw i < ts i * tw j
  · rw [if_pos c1, if_neg (fun z => by have := (of_decide_eq_true z).1; omega)]
  · rw [if_neg c1]
    by_cases c2 : tg i * tw j < tg j * tw i
    · rw [if_pos c2, if_neg (fun z => by have := (of_decide_eq_true z).2; omega)]
    · rw [if_neg c2, if_pos (decide_eq_true ⟨by omega, by omega⟩)]
end TR
