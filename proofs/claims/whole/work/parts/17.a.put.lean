/-! PUT -/
theorem nu_and63 : ∀ m, m < 32 → (((nI m).toInt64 &&& 63).toBitVec.smod 64).toNat = m := by decide
theorem nu_shl64 {a m : Nat} (hm : m < 32) (ha : a * 2 ^ m < 2 ^ 63) : lN a <<< ((nI m).toInt64 &&& 63) = lN (a * 2 ^ m) := by
  have h1 : a < 2 ^ 63 := Nat.lt_of_le_of_lt (Nat.le_mul_of_pos_right a (Nat.two_pow_pos m)) ha
  apply Int64.toInt_inj.mp
  have e : ((a * 2 ^ m : Nat) : Int) = (a : Int) * 2 ^ m := by rw [Int.natCast_mul, Int.natCast_pow]; rfl
  rw [pk_lT ha, Jvm.Kit.i64_shl (lN a) _ (nu_and63 m hm) (by rw [pk_lT h1, ← e]; omega) (by rw [pk_lT h1, ← e]; omega), pk_lT h1, e]
theorem nt_Gp {x N : Nat} (h1 : 1 ≤ N) (h2 : N ≤ 20) : nt_G ((2 ^ N - 1) / Nat.gcd x (2 ^ N - 1)) := by
  have : 2 ^ 1 ≤ 2 ^ N := Nat.pow_le_pow_right (by omega) h1
  exact ⟨Nat.div_pos (Nat.le_of_dvd (by omega) (Nat.gcd_dvd_right _ _)) (Nat.gcd_pos_of_pos_right _ (by omega)), Or.inr ⟨N, h1, h2, Nat.div_dvd_of_dvd (Nat.gcd_dvd_right _ _)⟩⟩
def pu_F (u b m s g : Nat) : Nat → Nat
  | 0 => 0
  | i + 1 => pu_F u b m s g i * 2 ^ m + if b ≤ 2 * (u * 2 ^ i % b) then g else s
theorem pu_lt {u b m s g : Nat} (hs : s < 2 ^ m - 1) (hg : g < 2 ^ m - 1) : ∀ i, pu_F u b m s g i ≤ 2 ^ (m * i) - 1 ∧ (1 ≤ i → pu_F u b m s g i < 2 ^ (m * i) - 1)
  | 0 => by rw [pu_F]; exact ⟨Nat.zero_le _, fun h => by omega⟩
  | i + 1 => by
    obtain ⟨ih, -⟩ := pu_lt (u := u) (b := b) hs hg i
    have hd : (if b ≤ 2 * (u * 2 ^ i % b) then g else s) < 2 ^ m - 1 := by split <;> assumption
    have hT := Nat.two_pow_pos (m * i)
    have h1 := Nat.mul_le_mul_right (2 ^ m) ih
    rw [Nat.sub_mul, Nat.one_mul] at h1
    have h2 : 2 ^ m ≤ 2 ^ (m * i) * 2 ^ m := Nat.le_mul_of_pos_left _ hT
    rw [pu_F, Nat.mul_succ, Nat.pow_add]
    omega
section PT
variable {z sz n : Nat} {w : mg_H} {A : ws_A} {S : ws_S} {pa : Option Nat} {p : Nat}
theorem mt_digitOf (hm : ws_M z w n A S km_l km_s km_g) {j t : Nat} (hj : j < n) (ht : t < 2 ^ 31) : fX4_digitOf (z + 4) (nI j) (nI t) w = some (if (A j).2 ≤ 2 * ((A j).1 * 2 ^ t % (A j).2) then 1 else 0) := by
  obtain ⟨-, f1, f2, l5, l6⟩ := mt_at hm hj
  have ho := mt_ok hm hj
  have hl := nt_Glt ho.2.2
  have hq := ho.1
  have hv : (A j).1 * 2 ^ t % (A j).2 < (A j).2 := Nat.mod_lt _ hl.1
  unfold fX4_digitOf
  rw [f1, l5, Option.bind_some, f2, l6, Option.bind_some, st_after hq (by omega) ht, Option.bind_some, f2, l6, Option.bind_some, nu_2L, nu_ite ((lg_cmp_lt _ _).trans (pk_lLT (by omega) (by omega)))]
  by_cases e : (A j).2 ≤ 2 * ((A j).1 * 2 ^ t % (A j).2)
  · rw [if_neg (by omega), if_pos e]
  · rw [if_pos (by omega), if_neg e]
theorem j_can (hc : ws_C z w sz n A S kt_L kt_G kt_U pa) {a b i j : Nat} (hi : i < n) (hj : j < n) (ha : z + 14 ≤ a) (h : w a = some (ws_turn (A i))) (hb : z + 14 ≤ b) (h' : w b = some (ws_turn (A j))) : ∃ v w1 kc ks pa1, fX3_pairForPutting z a b w sz = some (v, w1, kc, ks) ∧ ws_C z w1 (sz + kc) n A S kt_L kt_G kt_U pa1 ∧ ws_Fc z w w1 ∧ ws_Old z sz w w1 ∧ kc ≤ 5 ∧ ks ≤ 740 ∧ ((v = -1 ∧ ∀ w', ws_M z w' n A S km_l km_s km_g → fX4_canPut (z + 4) (nI i) (nI j) w' = some 0) ∨ ∃ k p, v = nI k ∧ tk (A i) k ∧ (A i).2 % 2 = 1 ∧ nt_L (A i).2 ≤ 8 ∧ (A j).2 % 2 = 1 ∧ pa1 = some p ∧ ∀ w', ws_M z w' n A S km_l km_s km_g → fX4_canPut (z + 4) (nI i) (nI j) w' = some 1) := by
  obtain ⟨_, hz⟩ := ct_z hc
  have ho := ct_ok hc hi
  have hl := nt_Glt ho.2.2
  have hq := ho.1
  have hM : ∀ w', ws_M z w' n A S km_l km_s km_g → ∀ m, fX4_pairOf (z + 4) (nI i) w' = some m → fX4_canPut (z + 4) (nI i) (nI j) w' = if (A j).2 % 2 = 1 then (if m = -4 then some 0 else if (A i).1 = 0 then some 0 else some 1) else some 0 := by
    intro w' hm' m hm2
    obtain ⟨_, hz4'⟩ := mt_z hm'
    obtain ⟨-, f1, -, l5, -⟩ := mt_at hm' hi
    unfold fX4_canPut
    rw [wr_rc hz4', mt_back hm' hj, Option.bind_some, nu_sel, wr_rc hz4', hm2, Option.bind_some, f1, l5, Option.bind_some, show (0 : Int64) = lN 0 from rfl, nu_ite ((lg_cmp_eq _ _).trans (pk_lEQ (show (A i).1 < 2 ^ 63 by omega) (show 0 < 2 ^ 63 by omega)))]
  unfold fX3_pairForPutting
  rw [tu_rc h', tu_back h' (ct_ok hc hj), Option.bind_some, nu_sel]
  obtain ⟨v, m, w1, kc, ks, pa1, e1, hc1, hf1, ho1, b1, b2, t1, p1, m1, tk1⟩ := j_one hc hi ha h
  have e0 : (nI (A i).1 = 0) ↔ (A i).1 = 0 := nI_eq (b := 0) (by omega) (by omega)
  by_cases c : (A j).2 % 2 = 1
  · rw [if_pos c, (tu_g h).1, Option.bind_some, nu_ite e0]
    by_cases d : (A i).1 = 0
    · rw [if_pos d]
      refine ⟨-1, w, 0, 0, pa, rfl, hc, fun _ _ _ => rfl, fun _ _ _ => rfl, by omega, by omega, Or.inl ⟨rfl, fun w' hm' => ?_⟩⟩
      rw [hM w' hm' m (m1 w' hm'), if_pos c, if_pos d, ite_self]
    · rw [if_neg d, wr_rc hz, e1, wr_bA, wr_bmp]
      refine ⟨v, w1, _, _, pa1, rfl, hc1, hf1, ho1, b1, b2, ?_⟩
      rcases t1 with ⟨rfl, rfl⟩ | ⟨k, hk, rfl, rfl⟩
      · exact Or.inl ⟨rfl, fun w' hm' => by rw [hM w' hm' _ (m1 w' hm'), if_pos c, if_pos rfl]⟩
      · obtain ⟨p, hp⟩ := p1.resolve_left (nI_n1 hk)
        obtain ⟨k', e, g1, g2, g3⟩ := tk1.resolve_left (nI_n1 hk)
        have : k = k' := (nI_eq (by omega) (by have := g1.1; omega)).mp e
        subst this
        exact Or.inr ⟨k, p, rfl, g1, g2, g3, c, hp, fun w' hm' => by rw [hM w' hm' _ (m1 w' hm'), if_pos c, if_neg (nI_n4 hk), if_neg d]⟩
  · rw [if_neg c]
    exact ⟨-1, w, 0, 0, pa, rfl, hc, fun _ _ _ => rfl, fun _ _ _ => rfl, by omega, by omega, Or.inl ⟨rfl, fun w' hm' => by rw [hM w' hm' m (m1 w' hm'), if_neg c]⟩⟩
theorem ct_putL {a b m s g L : Nat} {qa q : Nat × Nat} (h3 : w a = some (ws_turn qa)) (h4 : w b = some (ws_turn q)) (ho : ws_ok q) (hm : nt_L qa.2 = m) (hL : nt_L q.2 = L) (hmL : m * L ≤ 20) (h1m : 1 ≤ m) (hs : s < 2 ^ m - 1) (hg : g < 2 ^ m - 1) (sz : Nat) : ∀ d N i, i + d = L → d < N → fX3_put_b94 N z a b (nI s) (nI g) (lN (pu_F q.1 q.2 m s g i)) (nI i) w sz = fX3_put_b157 z a b (lN (pu_F q.1 q.2 m s g L)) w sz := by
  have hm20 : m ≤ 20 ∨ L = 0 := by
    rcases Nat.eq_zero_or_pos L with e | e
    · exact Or.inr e
    · exact Or.inl (Nat.le_trans (Nat.le_mul_of_pos_right m e) hmL)
  have hL20 : L ≤ 20 := Nat.le_trans (Nat.le_mul_of_pos_left L h1m) hmL
  have hl := nt_Glt ho.2.2
  obtain ⟨-, t1, -, t3⟩ := tu_g h4
  obtain ⟨-, -, -, u3⟩ := tu_g h3
  rw [hL] at t3
  rw [hm] at u3
  intro d
  induction d with
  | zero =>
    intro N i q1 q2
    obtain ⟨N, rfl⟩ : ∃ m, N = m + 1 := ⟨N - 1, by omega⟩
    obtain rfl : i = L := by omega
    rw [fX3_put_b94, t3, Option.bind_some, if_pos (nI_le (by omega) (by omega))]
  | succ d ih =>
    intro N i q1 q2
    obtain ⟨N, rfl⟩ : ∃ m, N = m + 1 := ⟨N - 1, by omega⟩
    have hv : q.1 * 2 ^ i % q.2 < q.2 := Nat.mod_lt _ hl.1
    have hp := (pu_lt (u := q.1) (b := q.2) hs hg i).1
    have hm20 : m ≤ 20 := by omega
    have hM : 2 ^ m ≤ 2 ^ 20 := Nat.pow_le_pow_right (by omega) hm20
    have hT : 2 ^ (m * i) ≤ 2 ^ 20 := Nat.pow_le_pow_right (by omega) (Nat.le_trans (Nat.mul_le_mul_left m (by omega)) hmL)
    have hb : pu_F q.1 q.2 m s g i * 2 ^ m < 2 ^ 63 := by
      have : pu_F q.1 q.2 m s g i * 2 ^ m ≤ 2 ^ 20 * 2 ^ 20 := Nat.mul_le_mul (by omega) hM
      omega
    have ih := ih N (i + 1) (by omega) (by omega)
    rw [pu_F] at ih
    rw [fX3_put_b94, t3, Option.bind_some, if_neg (nI_ge (by omega) (by omega)), tu_rc h4, tu_after h4 ho (by omega), Option.bind_some, t1, Option.bind_some, nu_2, nu_ite (nI_leI (show q.2 < 2 ^ 31 by omega) (show 2 * (q.1 * 2 ^ i % q.2) < 2 ^ 31 by omega)), fX3_put_b126, fX3_put_b126, u3, Option.bind_some, if_pos (c := (0 : Int32) = 0) rfl, Option.bind_some, if_neg (c := (1 : Int32) = 0) (by decide), fX3_put_b147, fX3_put_b147, show nI i + 1 = nI (i + 1) from nI_1 i, nu_shl64 (by omega) hb, nI_l (by omega), nI_l (by omega), lN_add, lN_add]
    by_cases c : q.2 ≤ 2 * (q.1 * 2 ^ i % q.2)
    · rw [if_pos c] at ih ⊢
      exact ih
    · rw [if_neg c] at ih ⊢
      exact ih
theorem mt_putL (hm : ws_M z w n A S km_l km_s km_g) {j k L : Nat} (hj : j < n) (hk : k < 236) (hmL : tl k * L ≤ 20) : ∀ d N i, i + d = L → d < N → fX4_put_b70 N (z + 4) (nI j) (nI k) (nI L) (lN (pu_F (A j).1 (A j).2 (tl k) (ts k) (tg k) i)) (nI i) w = fX4_put_b121 (z + 4) (nI k) (nI L) (lN (pu_F (A j).1 (A j).2 (tl k) (ts k) (tg k) L)) w := by
  obtain ⟨g3, g4, g5, g6, l7, l8, l9⟩ := mt_tab hm
  obtain ⟨_, hz4⟩ := mt_z hm
  have htf := tf hk
  have hw := tw_bnd hk
  have hs : ts k < 2 ^ tl k - 1 := by have : tg k < 2 ^ tl k - 1 := htf.2.2.2.1; omega
  have hg : tg k < 2 ^ tl k - 1 := htf.2.2.2.1
  have hL20 : L ≤ 20 := Nat.le_trans (Nat.le_mul_of_pos_left L htf.1) hmL
  intro d
  induction d with
  | zero =>
    intro N i q1 q2
    obtain ⟨N, rfl⟩ : ∃ m, N = m + 1 := ⟨N - 1, by omega⟩
    obtain rfl : i = L := by omega
    rw [fX4_put_b70, if_pos (nI_le (by omega) (by omega))]
  | succ d ih =>
    intro N i q1 q2
    obtain ⟨N, rfl⟩ : ∃ m, N = m + 1 := ⟨N - 1, by omega⟩
    have hp := (pu_lt (u := (A j).1) (b := (A j).2) hs hg i).1
    have hM : 2 ^ tl k ≤ 2 ^ 20 := Nat.pow_le_pow_right (by omega) (by omega)
    have hT : 2 ^ (tl k * i) ≤ 2 ^ 20 := Nat.pow_le_pow_right (by omega) (Nat.le_trans (Nat.mul_le_mul_left (tl k) (by omega)) hmL)
    have hb : pu_F (A j).1 (A j).2 (tl k) (ts k) (tg k) i * 2 ^ tl k < 2 ^ 63 := by
      have : pu_F (A j).1 (A j).2 (tl k) (ts k) (tg k) i * 2 ^ tl k ≤ 2 ^ 20 * 2 ^ 20 := Nat.mul_le_mul (by omega) hM
      omega
    have ih := ih N (i + 1) (by omega) (by omega)
    rw [pu_F] at ih
    rw [fX4_put_b70, if_neg (nI_ge (by omega) (by omega)), g4, l7 k hk, Option.bind_some, wr_rc hz4, mt_digitOf hm hj (by omega), Option.bind_some, g6, l9 k hk, Option.bind_some, g5, l8 k hk, Option.bind_some, fX4_put_b112, fX4_put_b112, show nI i + 1 = nI (i + 1) from nI_1 i, nu_shl64 (by omega) hb, lN_add, lN_add]
    by_cases c : (A j).2 ≤ 2 * ((A j).1 * 2 ^ i % (A j).2)
    · rw [if_pos c] at ih
      rw [if_pos c, if_pos rfl]
      exact ih
    · rw [if_neg c] at ih
      rw [if_neg c, if_neg (by decide)]
      exact ih
end PT
