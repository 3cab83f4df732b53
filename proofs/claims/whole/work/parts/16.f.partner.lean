/-! PARTNER -/
theorem ws_redmul {x t w : Nat} (ht : 0 < t) : ws_red (x * t) (w * t) = ws_red x w := by
  unfold ws_red
  rw [Nat.gcd_mul_right, Nat.mul_div_mul_right _ _ ht, Nat.mul_div_mul_right _ _ ht]
theorem tk_G {k : Nat} (x : Nat) (hk : k < 236) : nt_G (tw k / Nat.gcd x (tw k)) := by
  have h1 := tw_bnd hk
  have h2 := tf hk
  refine ⟨Nat.div_pos (Nat.le_of_dvd (by omega) (Nat.gcd_dvd_right _ _)) (Nat.gcd_pos_of_pos_right _ (by omega)), Or.inr ⟨tl k, by omega, by omega, ?_⟩⟩
  have : tw k / Nat.gcd x (tw k) ∣ tw k := Nat.div_dvd_of_dvd (Nat.gcd_dvd_right _ _)
  unfold tw at this ⊢
  exact this
def jt_B (z sz : Nat) (F : Option (Int32 × mg_H × Nat × Nat)) (G : mg_H → Option (Int32 × mg_H)) : Prop := ∃ r w1 kc ks w2 n2 A2 S2 pa, F = some (r, w1, kc, ks) ∧ G w1 = some (r, w2) ∧ ws_C z w2 (sz + kc) n2 A2 S2 kt_L kt_G kt_U pa ∧ ws_M z w2 n2 A2 S2 km_l km_s km_g ∧ kc ≤ 32 ∧ ks ≤ 2000 ∧ ∃ fs, w1 (z + 4) = some (.inl (4, fs))
section TF
variable {z sz n : Nat} {w : mg_H} {A : ws_A} {S : ws_S} {pa : Option Nat} {p : Nat}
theorem jt_keep (hc : ws_C z w sz n A S kt_L kt_G kt_U pa) (hm : ws_M z w n A S km_l km_s km_g) {a b c d : Nat} (hab : a < b) (hb : b < 2 ^ 31) (hcd : c < d) (hd : d < 2 ^ 31) (hr : ws_red a b = ws_red c d) (hG : nt_G (d / Nat.gcd c d)) : ∃ r w1 kc ks w2 n2 A2, fX3_keep z (lN a) (lN b) w sz = some (r, w1, kc, ks) ∧ fX4_comes (z + 4) (lN c) (lN d) w1 = some (r, w2) ∧ ws_C z w2 (sz + kc) n2 A2 S kt_L kt_G kt_U pa ∧ ws_M z w2 n2 A2 S km_l km_s km_g ∧ kc ≤ 1 ∧ ks ≤ 4 ∧ ws_Fc z w w1 := by
  have hG' : nt_G (b / Nat.gcd a b) := by
    have : b / Nat.gcd a b = d / Nat.gcd c d := congrArg Prod.snd hr
    rw [this]
    exact hG
  rcases ct_keep hc hab hb hG' with ⟨h1, e⟩ | ⟨h1, w1, e, hc1, hf, -⟩
  · rcases mt_comes hm hcd hd hG with ⟨h2, e2⟩ | ⟨h2, -⟩
    · exact ⟨_, w, 0, 0, w, n, A, e, e2, hc, hm, by omega, by omega, fun _ _ _ => rfl⟩
    · omega
  · rcases mt_comes (ws_Mkeep hf hm) hcd hd hG with ⟨h2, -⟩ | ⟨h2, w2, e2, hm2, hf2⟩
    · omega
    · rw [← hr] at hm2
      exact ⟨_, w1, 1, 4, w2, n + 1, _, e, e2, ws_Ckeep hf2 hc1, hm2, by omega, by omega, hf⟩
theorem wr_bA {α β : Type} {r : α} {w : mg_H} {kc ks : Nat} {K : α → mg_H → Nat → Nat → Option (β × mg_H × Nat × Nat)} : mg_bA (some (r, w, kc, ks)) K = mg_bmp kc ks (K r w kc ks) := rfl
theorem wr_bS {α ρ : Type} {r : α} {w : mg_H} {K : α → mg_H → Option ρ} : mg_bS (some (r, w)) K = K r w := rfl
theorem wr_nn {α : Type} {a : Nat} {K : Nat → Option α} : mg_nn (some a) K = K a := rfl
theorem wr_if0 {α : Type} {a : Nat} {X : Option α} {K : Nat → Option α} : mg_if0 (some a) X K = K a := rfl
theorem wr_if0n {α : Type} {X : Option α} {K : Nat → Option α} : mg_if0 none X K = X := rfl
theorem ct_other (hc : ws_C z w sz n A S kt_L kt_G kt_U (some p)) {k e : Nat} (hk : k < 236) (he : e < 2 ^ 31) : fX0_otherEnd p (nI k) (nI e) w = some (nI (if tL k = e then tG k else tL k)) := by
  obtain ⟨⟨_, h0⟩, g3, g0, g1, g2, l1, l2, l3, len⟩ := ct_tab hc
  have hb := tG_lt hk
  unfold fX0_otherEnd
  rw [wr_rc h0, ct_made hc hk, Option.bind_some, if_neg (by decide), g0, g1, g0, l1 k hk, l2 k hk, Option.bind_some, Option.bind_some, Option.bind_some, nu_ite (nI_eq (show tL k < 2 ^ 31 by omega) he)]
  by_cases c : tL k = e
  · rw [if_pos c, if_pos c]
  · rw [if_neg c, if_neg c]
theorem mt_partner (hm : ws_M z w n A S km_l km_s km_g) {i k : Nat} (hi : i < n) (hk : tk (A i) k) (c : (A i).2 % 2 = 1) (d : nt_L (A i).2 ≤ 8) : fX4_partner (z + 4) (nI i) w = mg_bS (fX4_comes (z + 4) (lN (if ts k = (A i).1 * (tw k / (A i).2) then tg k else ts k)) (lN (tw k)) w) fun v1 w2 => some (v1, w2) := by
  obtain ⟨_, hz4⟩ := mt_z hm
  obtain ⟨i1, f1, f2, l5, l6⟩ := mt_at hm hi
  obtain ⟨g3, g4, g5, g6, l7, l8, l9⟩ := mt_tab hm
  have ho := mt_ok hm hi
  have hl := nt_Glt ho.2.2
  have a1 := hk.1
  have a4 := hk.2.2.2
  have hb := tw_bnd a1
  have hlt := (tf a1).2.2.2.1
  have hsl := (tf a1).2.2.1
  have htl := (tf a1).2.1
  have hA : (A i).1 * (tw k / (A i).2) < 256 := by rcases a4 with a4 | a4 <;> omega
  have hne : ¬ nI k = -4 := by
    intro h
    have := congrArg Int32.toInt h
    rw [nI_toInt (by omega)] at this
    have h4 : (-4 : Int32).toInt = -4 := by decide
    omega
  unfold fX4_partner
  rw [wr_rc hz4, i1, Option.bind_some, if_neg (by decide), wr_rc hz4, (mt_pairOf hm hi).2 k hk c d, Option.bind_some, if_neg hne, g4, l7 k a1, Option.bind_some, st_whole (tl k) (by omega), Option.bind_some, f1, l5, Option.bind_some, f2, l6, Option.bind_some, if_neg (nu_lz hl.1 (by omega)), g5, l8 k a1, Option.bind_some, g6, l9 k a1, Option.bind_some, g5, l8 k a1, Option.bind_some]
  rw [show lN (2 ^ tl k - 1) = lN (tw k) from rfl, pk_lDiv (by omega) hl.1 (by omega), lN_mul]
  rw [nu_ite ((lg_cmp_eq _ _).trans (pk_lEQ (by omega) (by omega))), fX4_partner_b80, fX4_partner_b80, wr_rc hz4, wr_rc hz4]
  by_cases e : (A i).1 * (tw k / (A i).2) = ts k
  · rw [if_pos e, if_pos e.symm]
  · rw [if_neg e, if_neg (fun q => e q.symm)]
theorem j_partner (hc : ws_C z w sz n A S kt_L kt_G kt_U pa) (hm : ws_M z w n A S km_l km_s km_g) (x1 : Int32) : jt_B z sz (fX3_partner z x1 w sz) (fX4_partner (z + 4) x1) := by
  obtain ⟨_, hz⟩ := ct_z hc
  obtain ⟨_, hz4⟩ := mt_z hm
  have hn := ct_n hc
  unfold fX3_partner
  rw [wr_rc hz]
  rcases nu_ix x1 (n := n) (by omega) with hx | ⟨i, hi, rfl⟩
  · rw [ct_bad hc hx, Option.bind_some, wr_if0n]
    refine ⟨-1, w, 0, 0, w, n, A, S, pa, rfl, ?_, hc, hm, by omega, by omega, mt_z hm⟩
    unfold fX4_partner
    rw [wr_rc hz4, mt_bad hm hx, Option.bind_some, if_pos rfl]
  · obtain ⟨a, h1, ha, h2⟩ := ct_at hc hi
    have ho := ct_ok hc hi
    rw [h1, Option.bind_some, wr_if0, wr_rc hz]
    rcases ct_pairOf hc ha h2 ho with ⟨q, e⟩ | ⟨k, p, w1, kc, ks, hk, e, hc1, hf, hold, k1, k2, c, d⟩
    · rw [e, wr_bA, if_neg (by decide), wr_bmp]
      refine ⟨-2, w, 0, 0, w, n, A, S, pa, rfl, ?_, hc, hm, by omega, by omega, mt_z hm⟩
      unfold fX4_partner
      rw [wr_rc hz4, (mt_at hm hi).1, Option.bind_some, if_neg (by decide), wr_rc hz4, (mt_pairOf hm hi).1 q, Option.bind_some, if_pos rfl]
    · have hm1 := ws_Mkeep hf hm
      obtain ⟨_, hz1⟩ := ct_z hc1
      obtain ⟨⟨_, h0⟩, -⟩ := ct_tab hc1
      have h2' := ct_old hc hold ha h2
      obtain ⟨e1, e2⟩ := tk_part ho hk
      have a1 := hk.1
      have hb := tw_bnd a1
      have hlt := (tf a1).2.2.2.1
      have hsl := (tf a1).2.2.1
      have ht := tt_pos a1
      have hw := (tf a1).2.2.2.2
      have hbG := tG_lt a1
      have hx : (if tL k = (A i).1 * (21082635 / (A i).2) then tG k else tL k) = (if ts k = (A i).1 * (tw k / (A i).2) then tg k else ts k) * tt k := by
        rw [e1]
        unfold tL tG
        by_cases g : ts k = (A i).1 * (tw k / (A i).2)
        · rw [if_pos g, if_pos (by rw [g])]
        · rw [if_neg g, if_neg (fun y => g (Nat.eq_of_mul_eq_mul_right ht y))]
      have hlt2 : (if ts k = (A i).1 * (tw k / (A i).2) then tg k else ts k) < tw k := by split <;> omega
      have hle2 : (if tL k = (A i).1 * (21082635 / (A i).2) then tG k else tL k) < 21082635 := by split <;> omega
      rw [e, wr_bA, if_pos (nI_pos' (by omega)), wr_rc hz1, ct_known2 hc1, wr_bA, tu_rc h2', ct_inParts h2' ho, Option.bind_some, wr_nn, wr_rc h0, ct_other hc1 a1 (by omega), Option.bind_some, wr_rc hz1, nI_l (by omega), show (21082635 : Int64) = lN 21082635 from rfl]
      obtain ⟨r, w3, kc3, ks3, w4, n4, A4, q1, q2, q3, q4, q5, q6, q7⟩ := jt_keep (a := if tL k = (A i).1 * (21082635 / (A i).2) then tG k else tL k) (b := 21082635) (c := if ts k = (A i).1 * (tw k / (A i).2) then tg k else ts k) (d := tw k) hc1 hm1 hle2 (by omega) hlt2 (by omega) (by rw [hx, ← hw]; exact ws_redmul ht) (tk_G _ a1)
      have hm3 := ws_Mkeep q7 hm1
      rw [Nat.add_zero, q1, wr_bA, wr_bmp, wr_bmp, wr_bmp]
      refine ⟨r, w3, _, _, w4, n4, A4, S, some p, rfl, ?_, ?_, q4, by omega, by omega, mt_z hm3⟩
      · rw [mt_partner hm3 hi hk c d, q2, wr_bS]
      · rw [show sz + (kc + (0 + (kc3 + 0))) = sz + kc + kc3 by omega]
        exact q3
end TF
