/-! MEET: the model, and both -/
theorem me_rem {q : Nat × Nat} (ho : ws_ok q) (t : Nat) : (2 : Int64) * lN (q.1 * 2 ^ t % q.2) - (2 : Int64) * lN (q.1 * 2 ^ t % q.2) / lN q.2 * lN q.2 = lN (q.1 * 2 ^ (t + 1) % q.2) := by
  have hl := nt_Glt ho.2.2
  have := me_lt ho t
  rw [nu_2L, nu_rem (by omega) hl.1 (by omega), Nat.mul_comm 2, nu_mmod, Nat.pow_succ, Nat.mul_assoc]
section MC
variable {z sz n : Nat} {w : mg_H} {A : ws_A} {S : ws_S} {pa : Option Nat}
theorem mt_meetL (hm : ws_M z w n A S km_l km_s km_g) {i j k E : Nat} (hi : i < n) (hj : j < n) (hk : k < n) (hE : E ≤ 300000) : ∀ d N t, t + d = E + 512 → d < N → ∃ v, fX4_meet_b91 w N (z + 4) (nI i) (nI j) (nI k) (nI E) (lN ((A i).1 * 2 ^ t % (A i).2)) (lN ((A j).1 * 2 ^ t % (A j).2)) 1 (nI t) = some v ∧ me_R v (∀ s, t ≤ s → s < E + 512 → me_g (mX (A i) (A k) s) (mX (A j) (A k) s)) := by
  obtain ⟨-, f1, f2, l5i, l6i⟩ := mt_at hm hi
  obtain ⟨-, -, -, l5j, l6j⟩ := mt_at hm hj
  obtain ⟨-, -, -, l5k, l6k⟩ := mt_at hm hk
  have oi := mt_ok hm hi
  have oj := mt_ok hm hj
  have ok := mt_ok hm hk
  have hli := nt_Glt oi.2.2
  have hlj := nt_Glt oj.2.2
  have hlk := nt_Glt ok.2.2
  have hqk := ok.1
  intro d
  induction d with
  | zero =>
    intro N t e1 e2
    obtain ⟨N, rfl⟩ : ∃ m, N = m + 1 := ⟨N - 1, by omega⟩
    rw [fX4_meet_b91, show nI E + 512 = nI (E + 512) from nI_add E 512, if_pos (nI_le (by omega) (by omega)), fX4_meet_b219, if_neg (by decide)]
    exact ⟨1, rfl, Or.inl ⟨rfl, fun s s1 s2 => by omega⟩⟩
  | succ d ih =>
    intro N t e1 e2
    obtain ⟨N, rfl⟩ : ∃ m, N = m + 1 := ⟨N - 1, by omega⟩
    obtain ⟨v, g0, g1⟩ := ih N (t + 1) (by omega) (by omega)
    have hx := mX_le (A i) (A k) t
    have hy := mX_le (A j) (A k) t
    have nx : ∀ s0, fX4_meet_b181 w (fX4_meet_b91 w N) (z + 4) (nI i) (nI j) (nI k) (nI E) (lN ((A i).1 * 2 ^ t % (A i).2)) (lN ((A j).1 * 2 ^ t % (A j).2)) (nI t) s0 = fX4_meet_b91 w N (z + 4) (nI i) (nI j) (nI k) (nI E) (lN ((A i).1 * 2 ^ (t + 1) % (A i).2)) (lN ((A j).1 * 2 ^ (t + 1) % (A j).2)) s0 (nI (t + 1)) := by
      intro s0
      unfold fX4_meet_b181
      rw [f2, l6i, Option.bind_some, if_neg (nu_lz hli.1 (by omega)), f2, l6j, Option.bind_some, if_neg (nu_lz hlj.1 (by omega)), me_rem oi, me_rem oj, show nI t + 1 = nI (t + 1) from nI_1 t]
    have bad : fX4_meet_b91 w N (z + 4) (nI i) (nI j) (nI k) (nI E) (lN ((A i).1 * 2 ^ (t + 1) % (A i).2)) (lN ((A j).1 * 2 ^ (t + 1) % (A j).2)) 0 (nI (t + 1)) = some 0 := by
      obtain ⟨N, rfl⟩ : ∃ m, N = m + 1 := ⟨N - 1, by omega⟩
      rw [fX4_meet_b91, fX4_meet_b219, if_pos (c := (0 : Int32) = 0) rfl, if_pos (c := (0 : Int32) = 0) rfl, ite_self]
    have good : me_g (mX (A i) (A k) t) (mX (A j) (A k) t) → me_R v (∀ s, t ≤ s → s < E + 512 → me_g (mX (A i) (A k) s) (mX (A j) (A k) s)) := by
      intro hh
      rcases g1 with ⟨rfl, g1⟩ | ⟨rfl, g1⟩
      · refine Or.inl ⟨rfl, fun s s1 s2 => ?_⟩
        rcases Nat.lt_or_eq_of_le s1 with y | y
        · exact g1 s y s2
        · subst y; exact hh
      · exact Or.inr ⟨rfl, fun h => g1 (fun s s1 s2 => h s (by omega) s2)⟩
    have e2' : ∀ v, v ≤ 2 → (nI v = (2 : Int32) ↔ v = 2) := fun v hv => nI_eq (b := 2) (by omega) (by omega)
    rw [fX4_meet_b91, show nI E + 512 = nI (E + 512) from nI_add E 512, if_neg (nI_ge (by omega) (by omega)), if_neg (by decide)]
    simp only [f1, f2, l5k, l6i, l6j, l6k, Option.bind_some]
    rw [st_side (me_lt oi t) (by omega) (by omega) (by omega), Option.bind_some, st_side (me_lt oj t) (by omega) (by omega) (by omega), Option.bind_some, show nt_S ((A i).1 * 2 ^ t % (A i).2) (A i).2 (A k).1 (A k).2 = mX (A i) (A k) t from rfl, show nt_S ((A j).1 * 2 ^ t % (A j).2) (A j).2 (A k).1 (A k).2 = mX (A j) (A k) t from rfl, nu_ite (nI_eq (show mX (A i) (A k) t < 2 ^ 31 by omega) (show mX (A j) (A k) t < 2 ^ 31 by omega)), nu_ite (e2' _ hx), nu_ite (e2' _ hy)]
    unfold fX4_meet_b176
    rw [nx, nx, g0, bad]
    by_cases c1 : mX (A i) (A k) t = mX (A j) (A k) t
    · rw [if_pos c1]; exact ⟨v, rfl, good (Or.inl c1)⟩
    · rw [if_neg c1]
      by_cases c2 : mX (A i) (A k) t = 2
      · rw [if_pos c2]; exact ⟨v, rfl, good (Or.inr (Or.inl c2))⟩
      · rw [if_neg c2]
        by_cases c3 : mX (A j) (A k) t = 2
        · rw [if_pos c3]; exact ⟨v, rfl, good (Or.inr (Or.inr c3))⟩
        · rw [if_neg c3]
          refine ⟨0, rfl, Or.inr ⟨rfl, fun h => ?_⟩⟩
          rcases h t (by omega) (by omega) with h | h | h
          · exact c1 h
          · exact c2 h
          · exact c3 h
theorem me_E {L M : Nat} (h1 : L ≤ 510) (h2 : M ≤ 510) : L / Nat.gcd L M * M ≤ 260100 := Nat.mul_le_mul (Nat.le_trans (Nat.div_le_self _ _) h1) h2
theorem mt_meet (hm : ws_M z w n A S km_l km_s km_g) {i j k : Nat} (hi : i < n) (hj : j < n) (hk : k < n) : ∃ v, fX4_meet (z + 4) (nI i) (nI j) (nI k) w = some v ∧ me_R v (∀ s, s < nt_L (A i).2 / Nat.gcd (nt_L (A i).2) (nt_L (A j).2) * nt_L (A j).2 + 522 → me_g (mX (A i) (A k) s) (mX (A j) (A k) s)) := by
  obtain ⟨_, hz4⟩ := mt_z hm
  obtain ⟨i1, f1, f2, l5i, l6i⟩ := mt_at hm hi
  obtain ⟨j1, -, -, l5j, l6j⟩ := mt_at hm hj
  obtain ⟨k1, -, -, -, -⟩ := mt_at hm hk
  have oi := mt_ok hm hi
  have oj := mt_ok hm hj
  have li := nt_Lspec oi.2.2
  have lj := nt_Lspec oj.2.2
  have hE := me_E li.2.1 lj.2.1
  have g0 : 0 < Nat.gcd (nt_L (A i).2) (nt_L (A j).2) := Nat.gcd_pos_of_pos_left _ (by omega)
  have g1 : Nat.gcd (nt_L (A i).2) (nt_L (A j).2) ≤ nt_L (A i).2 := Nat.le_of_dvd (by omega) (Nat.gcd_dvd_left _ _)
  obtain ⟨v, e, hv⟩ := mt_meetL hm hi hj hk (E := 10 + nt_L (A i).2 / Nat.gcd (nt_L (A i).2) (nt_L (A j).2) * nt_L (A j).2) (by omega) (10 + nt_L (A i).2 / Nat.gcd (nt_L (A i).2) (nt_L (A j).2) * nt_L (A j).2 + 512) mg_N 0 (by omega) (by unfold mg_N; omega)
  rw [Nat.pow_zero, Nat.mul_one, Nat.mul_one, Nat.mod_eq_of_lt oi.1, Nat.mod_eq_of_lt oj.1, show nI 0 = (0 : Int32) from nI_0] at e
  refine ⟨v, ?_, ?_⟩
  · unfold fX4_meet
    rw [wr_rc hz4, i1, Option.bind_some, if_neg (by decide), wr_rc hz4, j1, Option.bind_some, if_neg (by decide), wr_rc hz4, k1, Option.bind_some, if_neg (by decide), f2, l6i, Option.bind_some, st_len oi.2.2, Option.bind_some, f2, l6j, Option.bind_some, st_len oj.2.2, Option.bind_some, nI_l (by omega), nI_l (by omega), st_gcd (by omega) (by omega), Option.bind_some, nu_i2n, if_neg (nI_ne0 (by omega) (by omega)), f1, l5i, Option.bind_some, f1, l5j, Option.bind_some, pk_div (by omega) (by omega) (by omega), pk_mul, show (10 : Int32) = nI 10 from rfl, nI_add]
    exact e
  · rcases hv with ⟨a1, a2⟩ | ⟨a1, a2⟩
    · exact Or.inl ⟨a1, fun s hs => a2 s (by omega) (by omega)⟩
    · exact Or.inr ⟨a1, fun h => a2 (fun s _ hs => h s (by omega))⟩
theorem ct_meet (hc : ws_C z w sz n A S kt_L kt_G kt_U pa) {i j k a b c : Nat} (hi : i < n) (hj : j < n) (hk : k < n) (ha : z + 14 ≤ a) (hb : z + 14 ≤ b) (hcc : z + 14 ≤ c) (h1 : w a = some (ws_turn (A i))) (h2 : w b = some (ws_turn (A j))) (h3 : w c = some (ws_turn (A k))) {T : Nat} (hT1 : nt_T (A i).2 ≤ T) (hT2 : nt_T (A j).2 ≤ T) (hT : T ≤ 522) : ∃ v w1, ((fX3_agreeAhead a b c (nI T) w).bind fun v9 => if v9 = 0 then (fX3_meet_b86  w) else (mg_rc w 3 z (mg_bS (fX3_agreeInRings z a b c (nI T) w) fun v10 w11 => if v10 = 0 then (fX3_meet_b86  w11) else (fX3_meet_b87 (1 : Int32) w11)))) = some (v, w1) ∧ me_R v (∀ s, s < nt_L (A i).2 / Nat.gcd (nt_L (A i).2) (nt_L (A j).2) * nt_L (A j).2 + 522 → me_g (mX (A i) (A k) s) (mX (A j) (A k) s)) ∧ ws_C z w1 sz n A S kt_L kt_G kt_U pa ∧ ws_Fc z w w1 := by
  have oi := ct_ok hc hi
  have oj := ct_ok hc hj
  have ok := ct_ok hc hk
  have li := nt_Lspec oi.2.2
  have lj := nt_Lspec oj.2.2
  have hlj := nt_Glt oj.2.2
  have iff := me_iff (r := A k) oi oj hT1 hT2 hT
  have g0 : 0 < Nat.gcd (nt_L (A i).2) (nt_L (A j).2) := Nat.gcd_pos_of_pos_left _ (by omega)
  have g1 : Nat.gcd (nt_L (A i).2) (nt_L (A j).2) ≤ nt_L (A i).2 := Nat.le_of_dvd (by omega) (Nat.gcd_dvd_left _ _)
  obtain ⟨⟨fs, h0, hfs⟩, f, hrow⟩ := ct_gR hc
  obtain ⟨v1, e1, hv1⟩ := me_ahead h1 h2 h3 oi oj ok (show T < 2 ^ 31 by omega) T mg_N 0 (by omega) (by unfold mg_N; omega)
  rw [Nat.pow_zero, Nat.mul_one, Nat.mul_one, Nat.mod_eq_of_lt oi.1, Nat.mod_eq_of_lt oj.1, show nI 0 = (0 : Int32) from nI_0] at e1
  have hah : fX3_agreeAhead a b c (nI T) w = some v1 := by
    unfold fX3_agreeAhead
    rw [(tu_g h1).1, Option.bind_some, (tu_g h2).1, Option.bind_some]
    exact e1
  rw [hah, Option.bind_some]
  rcases hv1 with ⟨rfl, hv1⟩ | ⟨rfl, hv1⟩
  · rw [if_neg (by decide), wr_rc h0]
    obtain ⟨wa, fa, ea, hwa, hfa⟩ := me_clear (w0 := w) (a := a) (b := b) (c := c) h0 hfs (show Nat.gcd (nt_L (A i).2) (nt_L (A j).2) ≤ 510 by omega) (nI T) (Nat.gcd (nt_L (A i).2) (nt_L (A j).2)) mg_N 0 w f ⟨hrow, fun _ _ => rfl⟩ (by omega) (by unfold mg_N; omega) (fun k' h' => by omega)
    have h1a : wa a = some (ws_turn (A i)) := by rw [hwa.2 a (by omega)]; exact h1
    have hI0 : me_I (A i) (A k) T (Nat.gcd (nt_L (A i).2) (nt_L (A j).2)) fa 0 := by
      intro k' hk'
      refine ⟨0, by omega, hfa k' hk', fun l hl => ?_⟩
      rw [Nat.zero_testBit]
      constructor
      · intro h; exact absurd h (by decide)
      · rintro ⟨i', h, -⟩; omega
    obtain ⟨wb, fb, eb, hwb, hfb⟩ := me_mark (w0 := w) (a := a) (b := b) (c := c) (T := T) h0 hfs g0 (by omega) ha hcc h1 h3 oi ok rfl (nI T) (nt_L (A i).2) mg_N 0 wa fa hwa (by omega) (by unfold mg_N; omega) hI0
    have h2b : wb b = some (ws_turn (A j)) := by rw [hwb.2 b (by omega)]; exact h2
    have h3b : wb c = some (ws_turn (A k)) := by rw [hwb.2 c (by omega)]; exact h3
    have h0b : wb z = some (.inl (3, fs)) := by rw [hwb.2 z (by omega)]; exact h0
    obtain ⟨v2, ec, hv2⟩ := me_test h0b hfs hwb.1 g0 (show Nat.gcd (nt_L (A i).2) (nt_L (A j).2) ≤ 510 by omega) h2b h3b oj ok rfl hfb (nt_L (A j).2) mg_N 0 (by omega) (by unfold mg_N; omega)
    rw [show nI 0 = (0 : Int32) from nI_0] at ea
    rw [Nat.zero_mod, show nI 0 = (0 : Int32) from nI_0, Nat.add_zero] at eb ec
    obtain ⟨hc2, hf2⟩ := ct_row hc hwb.1 hwb.2
    have hri : fX3_agreeInRings z a b c (nI T) w = some (v2, wb) := by
      unfold fX3_agreeInRings
      rw [(tu_g h1).2.2.2, Option.bind_some, (tu_g h2).2.2.2, Option.bind_some, nI_l (by omega), nI_l (by omega), st_shared (by omega) (by omega), Option.bind_some, nu_i2n, ea, fX3_agreeInRings_b50, tu_rc h1a, tu_after h1a oi (by omega), Option.bind_some, eb, fX3_agreeInRings_b141, tu_rc h2b, tu_after h2b oj (by omega), Option.bind_some, ec]
    rw [hri, wr_bS]
    rcases hv2 with ⟨rfl, hv2⟩ | ⟨rfl, hv2⟩
    · rw [if_neg (by decide)]
      exact ⟨1, wb, rfl, Or.inl ⟨rfl, iff.mpr ⟨fun t ht => hv1 t (by omega) ht, fun j' hj' => hv2 j' (by omega) hj'⟩⟩, hc2, hf2⟩
    · rw [if_pos rfl]
      exact ⟨0, wb, rfl, Or.inr ⟨rfl, fun h => hv2 (fun j' _ hj' => (iff.mp h).2 j' hj')⟩, hc2, hf2⟩
  · rw [if_pos rfl]
    exact ⟨0, w, rfl, Or.inr ⟨rfl, fun h => hv1 (fun s _ hs => (iff.mp h).1 s hs)⟩, hc, fun _ _ _ => rfl⟩
theorem me_uniq {v v' : Int32} {φ : Prop} (h : me_R v φ) (h' : me_R v' φ) : v = v' := by
  rcases h with ⟨rfl, h⟩ | ⟨rfl, h⟩ <;> rcases h' with ⟨rfl, h'⟩ | ⟨rfl, h'⟩
  · rfl
  · exact absurd h h'
  · exact absurd h' h
  · rfl
theorem j_meet (hc : ws_C z w sz n A S kt_L kt_G kt_U pa) (hm : ws_M z w n A S km_l km_s km_g) (x1 x2 x3 : Int32) : ∃ r w1, fX3_meet z x1 x2 x3 w = some (r, w1) ∧ fX4_meet (z + 4) x1 x2 x3 w1 = some r ∧ ws_C z w1 sz n A S kt_L kt_G kt_U pa ∧ ws_M z w1 n A S km_l km_s km_g := by
  obtain ⟨_, hz⟩ := ct_z hc
  obtain ⟨_, hz4⟩ := mt_z hm
  have hn := ct_n hc
  have any : ∀ x : Int32, ∃ r, fX3_turnAt z x w = some r := by
    intro x
    rcases nu_ix x (n := n) (by omega) with hy | ⟨j, hj, rfl⟩
    · exact ⟨_, ct_bad hc hy⟩
    · obtain ⟨b, h3, -, -⟩ := ct_at hc hj
      exact ⟨_, h3⟩
  unfold fX3_meet
  rw [wr_rc hz]
  rcases nu_ix x1 (n := n) (by omega) with hx | ⟨i, hi, rfl⟩
  · obtain ⟨r2, q2⟩ := any x2
    obtain ⟨r3, q3⟩ := any x3
    rw [ct_bad hc hx, Option.bind_some, wr_rc hz, q2, Option.bind_some, wr_rc hz, q3, Option.bind_some, wr_if0n]
    refine ⟨-1, w, rfl, ?_, hc, hm⟩
    unfold fX4_meet
    rw [wr_rc hz4, mt_bad hm hx, Option.bind_some, if_pos rfl]
  · obtain ⟨a, h1, ha, h1'⟩ := ct_at hc hi
    rw [h1, Option.bind_some, wr_rc hz]
    rcases nu_ix x2 (n := n) (by omega) with hx | ⟨j, hj, rfl⟩
    · obtain ⟨r3, q3⟩ := any x3
      rw [ct_bad hc hx, Option.bind_some, wr_rc hz, q3, Option.bind_some, wr_if0, wr_if0n]
      refine ⟨-1, w, rfl, ?_, hc, hm⟩
      unfold fX4_meet
      rw [wr_rc hz4, (mt_at hm hi).1, Option.bind_some, if_neg (by decide), wr_rc hz4, mt_bad hm hx, Option.bind_some, if_pos rfl]
    · obtain ⟨b, h2, hb, h2'⟩ := ct_at hc hj
      rw [h2, Option.bind_some, wr_rc hz]
      rcases nu_ix x3 (n := n) (by omega) with hx | ⟨k, hk, rfl⟩
      · rw [ct_bad hc hx, Option.bind_some, wr_if0, wr_if0, wr_if0n]
        refine ⟨-1, w, rfl, ?_, hc, hm⟩
        unfold fX4_meet
        rw [wr_rc hz4, (mt_at hm hi).1, Option.bind_some, if_neg (by decide), wr_rc hz4, (mt_at hm hj).1, Option.bind_some, if_neg (by decide), wr_rc hz4, mt_bad hm hx, Option.bind_some, if_pos rfl]
      · obtain ⟨c, h3, hcc, h3'⟩ := ct_at hc hk
        have oi := ct_ok hc hi
        have oj := ct_ok hc hj
        have hli := nt_Glt oi.2.2
        have hlj := nt_Glt oj.2.2
        have t1 := (nt_TO hli.1 (show (A i).2 < 2 ^ 22 by omega)).2.2
        have t2 := (nt_TO hlj.1 (show (A j).2 < 2 ^ 22 by omega)).2.2
        have hmax : (if nI (nt_T (A i).2) < nI (nt_T (A j).2) then nI (nt_T (A j).2) else nI (nt_T (A i).2)) = nI (max (nt_T (A i).2) (nt_T (A j).2)) := by
          rw [nu_ite (nI_ltI (show nt_T (A i).2 < 2 ^ 31 by omega) (show nt_T (A j).2 < 2 ^ 31 by omega))]
          by_cases y : nt_T (A i).2 < nt_T (A j).2
          · rw [if_pos y, Nat.max_eq_right (by omega)]
          · rw [if_neg y, Nat.max_eq_left (by omega)]
        obtain ⟨v, w1, e, hv, hc1, hf1⟩ := ct_meet hc hi hj hk ha hb hcc h1' h2' h3' (T := max (nt_T (A i).2) (nt_T (A j).2)) (Nat.le_max_left _ _) (Nat.le_max_right _ _) (by omega)
        have hm1 := ws_Mkeep hf1 hm
        obtain ⟨v', e', hv'⟩ := mt_meet hm1 hi hj hk
        have := me_uniq hv hv'
        subst this
        rw [h3, Option.bind_some, wr_if0, wr_if0, wr_if0, (tu_g h1').2.2.1, Option.bind_some, (tu_g h2').2.2.1, Option.bind_some, hmax, e]
        exact ⟨v, w1, rfl, e', hc1, hm1⟩
end MC
