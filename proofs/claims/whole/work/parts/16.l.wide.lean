/-! WIDE -/
theorem nu_cdiv {x w t : Nat} (ht : 0 < t) (hw : 0 < w) : (x * t + w * t - 1) / (w * t) = (x + w - 1) / w := by
  have e : x * t + w * t - 1 = (x + w - 1) * t + (t - 1) := by
    have h1 : x * t + w * t = (x + w - 1) * t + t := by
      rw [← Nat.add_mul, ← Nat.succ_mul]
      congr 1
      omega
    omega
  rw [e, Nat.mul_comm w t, ← Nat.div_div_eq_div_mul, Nat.add_comm, Nat.add_mul_div_right _ _ ht, Nat.div_eq_of_lt (show t - 1 < t by omega), Nat.zero_add]
def wi (k d : Nat) : Int64 := lN (tg k * (2 ^ d - 1) / tw k) - lN ((ts k * (2 ^ d - 1) + tw k - 1) / tw k) + 1
theorem nu_p20 {d : Nat} (h : d ≤ 20) : 2 ^ d - 1 < 2 ^ 20 := by
  have : 2 ^ d ≤ 2 ^ 20 := Nat.pow_le_pow_right (by omega) h
  omega
section TL
variable {z sz n : Nat} {w : mg_H} {A : ws_A} {S : ws_S} {pa : Option Nat} {p : Nat}
theorem ct_inside (hc : ws_C z w sz n A S kt_L kt_G kt_U (some p)) {k d : Nat} (hk : k < 236) (hd : d ≤ 20) : fX0_amountInside p (nI k) (nI (2 ^ d - 1)) w = some (wi k d).toInt32 := by
  obtain ⟨⟨_, h0⟩, g3, g0, g1, g2, l1, l2, l3, len⟩ := ct_tab hc
  have hb := tG_lt hk
  have hp := nu_p20 hd
  have ht := tt_pos hk
  have hw := (tw_bnd hk).1
  have e := (tf hk).2.2.2.2
  have hm1 : tG k * (2 ^ d - 1) < 2 ^ 46 := by
    have : tG k * (2 ^ d - 1) ≤ 2 ^ 25 * 2 ^ 20 := Nat.mul_le_mul (by omega) (by omega)
    omega
  have hm2 : tL k * (2 ^ d - 1) < 2 ^ 46 := by
    have : tL k * (2 ^ d - 1) ≤ 2 ^ 25 * 2 ^ 20 := Nat.mul_le_mul (by omega) (by omega)
    omega
  unfold fX0_amountInside
  rw [wr_rc h0, ct_made hc hk, Option.bind_some, if_neg (by decide), g1, l2 k hk, Option.bind_some, nI_l (by omega), nI_l (by omega), lN_mul, show (21082635 : Int64) = lN 21082635 from rfl, st_over (by omega) (by omega) (by omega), Option.bind_some, g0, l1 k hk, Option.bind_some, nI_l (by omega), lN_mul, lN_add, show (1 : Int64) = lN 1 from rfl, lN_sub (by omega), st_over (by omega) (by omega) (by omega), Option.bind_some]
  have a1 : tG k * (2 ^ d - 1) / 21082635 = tg k * (2 ^ d - 1) / tw k := by
    rw [← e]
    unfold tG
    rw [Nat.mul_right_comm, Nat.mul_div_mul_right _ _ ht]
  have a2 : (tL k * (2 ^ d - 1) + 21082635 - 1) / 21082635 = (ts k * (2 ^ d - 1) + tw k - 1) / tw k := by
    rw [← e]
    unfold tL
    rw [Nat.mul_right_comm, nu_cdiv ht hw]
  rw [a1, a2]
  rfl
theorem mt_within (hm : ws_M z w n A S km_l km_s km_g) {k d : Nat} (hk : k < 236) (hd : d ≤ 20) : fX4_within (z + 4) (nI k) (nI d) w = some (wi k d) := by
  obtain ⟨g3, g4, g5, g6, l7, l8, l9⟩ := mt_tab hm
  have tf := tf hk
  have hw := tw_bnd hk
  have hp := nu_p20 hd
  have hm1 : tg k * (2 ^ d - 1) < 2 ^ 46 := by
    have : tg k * (2 ^ d - 1) ≤ 2 ^ 25 * 2 ^ 20 := Nat.mul_le_mul (by omega) (by omega)
    omega
  have hm2 : ts k * (2 ^ d - 1) < 2 ^ 46 := by
    have : ts k * (2 ^ d - 1) ≤ 2 ^ 25 * 2 ^ 20 := Nat.mul_le_mul (by omega) (by omega)
    omega
  unfold fX4_within
  simp only [g4, g5, g6, l7 k hk, l8 k hk, l9 k hk, Option.bind_some, st_whole (tl k) (by omega), st_whole d (by omega), show lN (2 ^ tl k - 1) = lN (tw k) from rfl, if_neg (nu_lz (show 0 < tw k by omega) (by omega))]
  rw [lN_mul, lN_mul, lN_add, show (1 : Int64) = lN 1 from rfl, lN_sub (by omega), pk_lDiv (by omega) (by omega) (by omega), pk_lDiv (by omega) (by omega) (by omega)]
  rfl
theorem mt_wideL (hm : ws_M z w n A S km_l km_s km_g) {k N : Nat} (hk : k < 236) (hN1 : 1 ≤ N) (hN : N ≤ 20) : ∀ (e f d : Nat) (s : Int64), d + e = N → e < f → s.toInt32 = mb_F N (fun d => (wi k d).toInt32) d → fX4_wide_b43 w f (z + 4) (nI N) (nI k) s (nI (d + 1)) = some (mb_F N (fun d => (wi k d).toInt32) N) := by
  obtain ⟨_, hz4⟩ := mt_z hm
  intro e
  induction e with
  | zero =>
    intro f d s h1 h2 h3
    obtain ⟨f, rfl⟩ : ∃ y, f = y + 1 := ⟨f - 1, by omega⟩
    have e : d = N := by omega
    subst e
    rw [fX4_wide_b43, if_pos (nI_lt (by omega) (by omega)), h3]
  | succ e ih =>
    intro f d s h1 h2 h3
    obtain ⟨f, rfl⟩ : ∃ y, f = y + 1 := ⟨f - 1, by omega⟩
    have hne : ¬ nI (d + 1) = 0 := nI_ne0 (by omega) (by omega)
    have ih := fun s => ih f (d + 1) s (by omega) (by omega)
    rw [mb_F] at ih
    rw [fX4_wide_b43, if_neg (nI_nlt (by omega) (by omega)), if_neg hne, if_neg hne, nu_ite (nu_mod0 (by omega) (by omega) (by omega)), pk_div (by omega) (by omega) (by omega)]
    by_cases c : N % (d + 1) = 0
    · have hq1 : 1 ≤ N / (d + 1) := Nat.div_pos (by omega) (by omega)
      have hq2 : N / (d + 1) ≤ N := Nat.div_le_self _ _
      rw [if_pos c, st_mu _ (by omega) hq1, Option.bind_some, wr_rc hz4, mt_within hm hk (by omega), Option.bind_some, fX4_wide_b78, show nI (d + 1) + 1 = nI (d + 1 + 1) from nI_1 (d + 1)]
      refine ih _ ?_
      rw [if_pos c, lg_l2i_add, lg_l2i_mul, h3, lg_l2i_i2l]
    · rw [if_neg c, fX4_wide_b78, show nI (d + 1) + 1 = nI (d + 1 + 1) from nI_1 (d + 1)]
      refine ih _ ?_
      rw [if_neg c, lg_l2i_add, h3]
      rfl
theorem ct_wideL {k N : Nat} (hk : k < 236) (hN1 : 1 ≤ N) (hN : N ≤ 20) : ∀ (e f d : Nat) (w : mg_H) (g : Nat → Int32) (sz : Nat), ws_C z w sz n A S kt_L kt_G kt_U (some p) → w (z + 3) = some (.inr (0, 512, .inl g)) → d + e = N + 1 → 1 ≤ d → e < f → (∀ i, 1 ≤ i → i < d → g i = (wi k i).toInt32) → ∃ w2, fX3_wide_b37 f z (nI N) (nI k) (nI d) w sz = some (mb_F N (fun d => (wi k d).toInt32) N, w2, 0, 0) ∧ ws_C z w2 sz n A S kt_L kt_G kt_U (some p) ∧ ws_Fc z w w2 := by
  intro e
  induction e with
  | zero =>
    intro f d w g sz hc h3 h1 h2 h4 h5
    obtain ⟨f, rfl⟩ : ∃ y, f = y + 1 := ⟨f - 1, by omega⟩
    obtain ⟨⟨fs, h0, hfs⟩, -⟩ := ct_gR hc
    obtain ⟨w2, e1, ⟨g2, e2⟩, e3⟩ := st_just (w := w) hfs hN1 hN h0 h3
    obtain ⟨hc2, hf2⟩ := ct_row hc e2 e3
    rw [fX3_wide_b37, if_pos (nI_lt (by omega) (by omega)), fX3_wide_b70, wr_rc h0, e1, wr_bS, mb_cong N (fun i h6 h7 => h5 i h6 (by omega))]
    exact ⟨w2, rfl, hc2, hf2⟩
  | succ e ih =>
    intro f d w g sz hc h3 h1 h2 h4 h5
    obtain ⟨f, rfl⟩ : ∃ y, f = y + 1 := ⟨f - 1, by omega⟩
    obtain ⟨⟨fs, h0, hfs⟩, -⟩ := ct_gR hc
    obtain ⟨⟨_, hp⟩, -⟩ := ct_tab hc
    obtain ⟨hc2, hf2⟩ := ct_row (w2 := mg_set w (z + 3) (.inr (0, 512, .inl (upd g d (wi k d).toInt32)))) hc (wr_set _ _ _) (fun x hx => wr_ne hx)
    obtain ⟨w2, e1, e2, e3⟩ := ih f (d + 1) _ (upd g d (wi k d).toInt32) sz hc2 (wr_set _ _ _) (by omega) (by omega) (by omega) (fun i h6 h7 => by
      by_cases c : i = d
      · subst c; simp [upd]
      · simp only [upd, if_neg c]; exact h5 i h6 (by omega))
    rw [fX3_wide_b37, if_neg (nI_nlt (by omega) (by omega)), wr_gN h0 hfs, wr_rc h0, ct_known2 hc, wr_bA, st_ones d (by omega), Option.bind_some, wr_nn, wr_rc hp, ct_inside hc hk (by omega), Option.bind_some, wr_stI h3 (by omega) (by omega), Option.bind_some, show nI d + 1 = nI (d + 1) from nI_1 d, show sz + 0 = sz from rfl, e1, wr_bmp]
    exact ⟨w2, rfl, e2, fun x q1 q2 => by rw [e3 x q1 q2]; exact hf2 x q1 q2⟩
theorem j_wide (hc : ws_C z w sz n A S kt_L kt_G kt_U pa) (hm : ws_M z w n A S km_l km_s km_g) (x1 x2 : Int32) : jt_A z sz n A S (fX3_wide z x1 x2 w sz) (fX4_wide (z + 4) x1 x2) := by
  obtain ⟨_, hz⟩ := ct_z hc
  obtain ⟨_, hz4⟩ := mt_z hm
  have hn := ct_n hc
  unfold fX3_wide
  rw [wr_rc hz]
  rcases nu_ix x1 (n := n) (by omega) with hx | ⟨i, hi, rfl⟩
  · rw [ct_bad hc hx, Option.bind_some, wr_if0n]
    refine ⟨-1, w, 0, 0, pa, rfl, ?_, hc, hm, by omega, by omega⟩
    unfold fX4_wide
    rw [wr_rc hz4, mt_bad hm hx, Option.bind_some, if_pos rfl]
  · obtain ⟨a, h1, ha, h2⟩ := ct_at hc hi
    rw [h1, Option.bind_some, wr_if0, st_isLength, Option.bind_some, nu_sel]
    have hG : ∀ w', ws_M z w' n A S km_l km_s km_g → fX4_wide (z + 4) (nI i) x2 w' = if 1 ≤ x2.toInt ∧ x2.toInt ≤ 20 then (fX4_pairOf (z + 4) (nI i) w').bind (fun v3 => if v3 = (-4 : Int32) then (some (-2 : Int32)) else (fX4_wide_b43 w' mg_N (z + 4) x2 v3 (0 : Int64) (1 : Int32))) else some (-1) := by
      intro w' hm'
      obtain ⟨_, hz4'⟩ := mt_z hm'
      unfold fX4_wide
      rw [wr_rc hz4', (mt_at hm' hi).1, Option.bind_some, if_neg (by decide), st_inI (x := x2) (A := 1) (B := 20) (a := 1) (b := 20) rfl rfl, Option.bind_some, nu_sel, wr_rc hz4']
    by_cases c : 1 ≤ x2.toInt ∧ x2.toInt ≤ 20
    · obtain ⟨N, q1, q8, rfl⟩ := nu_rg (a := 1) (b := 20) (by omega) c
      obtain ⟨v, m, w1, kc, ks, pa1, e1, hc1, hf1, ho1, b1, b2, t1, p1, m1, -⟩ := j_one hc hi ha h2
      have hm1 := ws_Mkeep hf1 hm
      rw [if_pos c, wr_rc hz, e1, wr_bA]
      rcases t1 with ⟨rfl, rfl⟩ | ⟨k, hk, rfl, rfl⟩
      · rw [if_neg (by decide), wr_bmp]
        refine ⟨-2, w1, _, _, pa1, rfl, ?_, by rw [Nat.add_zero]; exact hc1, hm1, by omega, by omega⟩
        rw [hG w1 hm1, if_pos c, m1 w1 hm1, Option.bind_some, if_pos rfl]
      · obtain ⟨p, rfl⟩ := p1.resolve_left (nI_n1 hk)
        obtain ⟨-, g, h3⟩ := ct_gR hc1
        obtain ⟨w2, e2, hc2, hf2⟩ := ct_wideL hk q1 q8 N mg_N 1 w1 g (sz + kc) hc1 h3 (by omega) (by omega) (by unfold mg_N; omega) (fun i h1 h2 => by omega)
        have hm2 := ws_Mkeep hf2 hm1
        rw [show nI 1 = (1 : Int32) from rfl] at e2
        rw [if_pos (nI_pos' (by omega)), e2, wr_bmp]
        refine ⟨_, w2, _, _, some p, rfl, ?_, by rw [Nat.add_zero]; exact hc2, hm2, by omega, by omega⟩
        rw [hG w2 hm2, if_pos c, m1 w2 hm2, Option.bind_some, if_neg (nI_n4 hk)]
        have := mt_wideL hm2 hk q1 q8 N mg_N 0 0 (by omega) (by unfold mg_N; omega) rfl
        rw [Nat.zero_add, show nI 1 = (1 : Int32) from rfl] at this
        exact this
    · rw [if_neg c]
      exact ⟨-1, w, 0, 0, pa, rfl, by rw [hG w hm, if_neg c], hc, hm, by omega, by omega⟩
end TL
