/-! all: how many of a LENGTH -/
def mu_T (k : Nat) : Int32 := match k with
  | 1 => 1 | 2 => -1 | 3 => -1 | 4 => 0 | 5 => -1 | 6 => 1 | 7 => -1 | 8 => 0 | 9 => 0 | 10 => 1 | 11 => -1 | 12 => 0 | 13 => -1 | 14 => 1 | 15 => 1 | 16 => 0 | 17 => -1 | 18 => 0 | 19 => -1 | 20 => 0 | _ => 0
theorem st_mu : ∀ k, k < 21 → 1 ≤ k → fX4_moebius (nI k) = some (mu_T k) := by decide +kernel
def jl_in (n d : Nat) : Nat → Nat → (Nat → Int32) → (Nat → Int32)
  | 0, _, g => g
  | k + 1, e, g => if n < e then g else jl_in n d k (e + d) (upd g e (g e - g d))
def jl_out (n : Nat) : Nat → Nat → (Nat → Int32) → (Nat → Int32)
  | 0, _, g => g
  | k + 1, d, g => jl_out n k (d + 1) (jl_in n d 21 (2 * d) g)
/-- the sum over what divides -/
def mb_F (n : Nat) (g : Nat → Int32) : Nat → Int32
  | 0 => 0
  | d + 1 => mb_F n g d + if n % (d + 1) = 0 then mu_T (n / (d + 1)) * g (d + 1) else 0
theorem mb_1 (g : Nat → Int32) : jl_out 1 0 1 g 1 = mb_F 1 g 1 := by
  simp [jl_out, jl_in, mb_F, mu_T, upd]
  try grind
theorem mb_2 (g : Nat → Int32) : jl_out 2 1 1 g 2 = mb_F 2 g 2 := by
  simp [jl_out, jl_in, mb_F, mu_T, upd]
  try grind
theorem mb_3 (g : Nat → Int32) : jl_out 3 2 1 g 3 = mb_F 3 g 3 := by
  simp [jl_out, jl_in, mb_F, mu_T, upd]
  try grind
theorem mb_4 (g : Nat → Int32) : jl_out 4 3 1 g 4 = mb_F 4 g 4 := by
  simp [jl_out, jl_in, mb_F, mu_T, upd]
  try grind
theorem mb_5 (g : Nat → Int32) : jl_out 5 4 1 g 5 = mb_F 5 g 5 := by
  simp [jl_out, jl_in, mb_F, mu_T, upd]
  try grind
theorem mb_6 (g : Nat → Int32) : jl_out 6 5 1 g 6 = mb_F 6 g 6 := by
  simp [jl_out, jl_in, mb_F, mu_T, upd]
  try grind
theorem mb_7 (g : Nat → Int32) : jl_out 7 6 1 g 7 = mb_F 7 g 7 := by
  simp [jl_out, jl_in, mb_F, mu_T, upd]
  try grind
theorem mb_8 (g : Nat → Int32) : jl_out 8 7 1 g 8 = mb_F 8 g 8 := by
  simp [jl_out, jl_in, mb_F, mu_T, upd]
  try grind
theorem mb_9 (g : Nat → Int32) : jl_out 9 8 1 g 9 = mb_F 9 g 9 := by
  simp [jl_out, jl_in, mb_F, mu_T, upd]
  try grind
theorem mb_10 (g : Nat → Int32) : jl_out 10 9 1 g 10 = mb_F 10 g 10 := by
  simp [jl_out, jl_in, mb_F, mu_T, upd]
  try grind
theorem mb_11 (g : Nat → Int32) : jl_out 11 10 1 g 11 = mb_F 11 g 11 := by
  simp [jl_out, jl_in, mb_F, mu_T, upd]
  try grind
theorem mb_12 (g : Nat → Int32) : jl_out 12 11 1 g 12 = mb_F 12 g 12 := by
  simp [jl_out, jl_in, mb_F, mu_T, upd]
  try grind
theorem mb_13 (g : Nat → Int32) : jl_out 13 12 1 g 13 = mb_F 13 g 13 := by
  simp [jl_out, jl_in, mb_F, mu_T, upd]
  try grind
theorem mb_14 (g : Nat → Int32) : jl_out 14 13 1 g 14 = mb_F 14 g 14 := by
  simp [jl_out, jl_in, mb_F, mu_T, upd]
  try grind
theorem mb_15 (g : Nat → Int32) : jl_out 15 14 1 g 15 = mb_F 15 g 15 := by
  simp [jl_out, jl_in, mb_F, mu_T, upd]
  try grind
theorem mb_16 (g : Nat → Int32) : jl_out 16 15 1 g 16 = mb_F 16 g 16 := by
  simp [jl_out, jl_in, mb_F, mu_T, upd]
  try grind
theorem mb_17 (g : Nat → Int32) : jl_out 17 16 1 g 17 = mb_F 17 g 17 := by
  simp [jl_out, jl_in, mb_F, mu_T, upd]
  try grind
theorem mb_18 (g : Nat → Int32) : jl_out 18 17 1 g 18 = mb_F 18 g 18 := by
  simp [jl_out, jl_in, mb_F, mu_T, upd]
  try grind
theorem mb_19 (g : Nat → Int32) : jl_out 19 18 1 g 19 = mb_F 19 g 19 := by
  simp [jl_out, jl_in, mb_F, mu_T, upd]
  try grind
theorem mb_20 (g : Nat → Int32) : jl_out 20 19 1 g 20 = mb_F 20 g 20 := by
  simp [jl_out, jl_in, mb_F, mu_T, upd]
  try grind
theorem mb_all (g : Nat → Int32) : ∀ n, 1 ≤ n → n ≤ 20 → jl_out n (n - 1) 1 g n = mb_F n g n := by
  intro n h1 h2
  match n, h1, h2 with
  | 1, _, _ => exact mb_1 g
  | 2, _, _ => exact mb_2 g
  | 3, _, _ => exact mb_3 g
  | 4, _, _ => exact mb_4 g
  | 5, _, _ => exact mb_5 g
  | 6, _, _ => exact mb_6 g
  | 7, _, _ => exact mb_7 g
  | 8, _, _ => exact mb_8 g
  | 9, _, _ => exact mb_9 g
  | 10, _, _ => exact mb_10 g
  | 11, _, _ => exact mb_11 g
  | 12, _, _ => exact mb_12 g
  | 13, _, _ => exact mb_13 g
  | 14, _, _ => exact mb_14 g
  | 15, _, _ => exact mb_15 g
  | 16, _, _ => exact mb_16 g
  | 17, _, _ => exact mb_17 g
  | 18, _, _ => exact mb_18 g
  | 19, _, _ => exact mb_19 g
  | 20, _, _ => exact mb_20 g
  | n + 21, _, h => omega
section AL
variable {z sz n : Nat} {w : mg_H} {A : ws_A} {S : ws_S} {tL tG tU pl : Nat → Int32} {ps pg : Nat → Int64} {pa : Option Nat}
theorem ct_row (hc : ws_C z w sz n A S tL tG tU pa) {w2 : mg_H} {g : Nat → Int32} (h : w2 (z + 3) = some (.inr (0, 512, .inl g))) (o : ∀ x, x ≠ z + 3 → w2 x = w x) : ws_C z w2 sz n A S tL tG tU pa ∧ ws_Fc z w w2 := by
  obtain ⟨fT, fS, fR, h0, h1, h2, h3, hn, hs, hz, hA, hS, hd, hp⟩ := hc
  refine ⟨?_, fun x q1 q2 => o x (by omega)⟩
  obtain ⟨r1, r2, r3⟩ := ws_rest (w2 := w2) (fun x q _ => o x (by omega)) hS hd hp
  refine ⟨fT, fS, g, by rw [o _ (by omega)]; exact h0, by rw [o _ (by omega)]; exact h1, by rw [o _ (by omega)]; exact h2, h, hn, hs, fun x q => by rw [o _ (by omega)]; exact hz x q, fun k q => ?_, r1, r2, r3⟩
  obtain ⟨b1, x, b2, b3, b4⟩ := hA k q
  exact ⟨b1, x, b2, b3, by rw [o _ (by omega)]; exact b4⟩
theorem ct_gR (hc : ws_C z w sz n A S tL tG tU pa) : (∃ fs, w z = some (.inl (3, fs)) ∧ fs[2]? = some (.ref (z + 3))) ∧ ∃ g, w (z + 3) = some (.inr (0, 512, .inl g)) := by
  obtain ⟨fT, fS, fR, h0, h1, h2, h3, -⟩ := hc
  exact ⟨⟨_, h0, rfl⟩, _, h3⟩
theorem jl_inW {fs : List Value} (hfs : fs[2]? = some (.ref (z + 3))) (r2 : Nat → Int32 → Int32 → mg_H → Option (Int32 × mg_H)) {N d : Nat} (hN : N ≤ 20) (hd : 1 ≤ d) (hd2 : d ≤ 20) : ∀ (k f e : Nat) (w : mg_H) (g : Nat → Int32), w z = some (.inl (3, fs)) → w (z + 3) = some (.inr (0, 512, .inl g)) → N < e + k → k < f → e ≤ 60 → ∃ w2, fX3_justOfLength_b11 r2 f z (nI N) (nI d) (nI e) w = r2 z (nI N) (nI (d + 1)) w2 ∧ w2 (z + 3) = some (.inr (0, 512, .inl (jl_in N d k e g))) ∧ ∀ x, x ≠ z + 3 → w2 x = w x := by
  intro k
  induction k with
  | zero =>
    intro f e w g h0 h3 h1 h2 h4
    obtain ⟨f, rfl⟩ : ∃ y, f = y + 1 := ⟨f - 1, by omega⟩
    rw [fX3_justOfLength_b11, if_pos (nI_lt (by omega) (by omega))]
    unfold fX3_justOfLength_b38
    rw [show nI d + 1 = nI (d + 1) from nI_1 d]
    exact ⟨w, rfl, h3, fun _ _ => rfl⟩
  | succ k ih =>
    intro f e w g h0 h3 h1 h2 h4
    obtain ⟨f, rfl⟩ : ∃ y, f = y + 1 := ⟨f - 1, by omega⟩
    rw [fX3_justOfLength_b11, jl_in]
    by_cases c : N < e
    · rw [if_pos (nI_lt c (by omega)), if_pos c]
      unfold fX3_justOfLength_b38
      rw [show nI d + 1 = nI (d + 1) from nI_1 d]
      exact ⟨w, rfl, h3, fun _ _ => rfl⟩
    · rw [if_neg (nI_nlt (by omega) (by omega)), if_neg c, wr_gN h0 hfs, wr_ldI h3 (by omega) (by omega), Option.bind_some, wr_gN h0 hfs, wr_ldI h3 (by omega) (by omega), Option.bind_some, wr_stI h3 (by omega) (by omega), Option.bind_some, nI_add]
      obtain ⟨w2, e1, e2, e3⟩ := ih f (e + d) (mg_set w (z + 3) (.inr (0, 512, .inl (upd g e (g e - g d))))) (upd g e (g e - g d)) (by rw [wr_ne (by omega)]; exact h0) (wr_set _ _ _) (by omega) (by omega) (by omega)
      exact ⟨w2, e1, e2, fun x hx => by rw [e3 x hx, wr_ne hx]⟩
theorem jl_outW {fs : List Value} (hfs : fs[2]? = some (.ref (z + 3))) {N : Nat} (hN1 : 1 ≤ N) (hN : N ≤ 20) : ∀ (k f d : Nat) (w : mg_H) (g : Nat → Int32), w z = some (.inl (3, fs)) → w (z + 3) = some (.inr (0, 512, .inl g)) → d + k = N → 1 ≤ d → k < f → ∃ w2, fX3_justOfLength_b2 f z (nI N) (nI d) w = some (jl_out N k d g N, w2) ∧ (∃ g2, w2 (z + 3) = some (.inr (0, 512, .inl g2))) ∧ ∀ x, x ≠ z + 3 → w2 x = w x := by
  intro k
  induction k with
  | zero =>
    intro f d w g h0 h3 h1 h2 h4
    obtain ⟨f, rfl⟩ : ∃ y, f = y + 1 := ⟨f - 1, by omega⟩
    have e : d = N := by omega
    subst e
    rw [fX3_justOfLength_b2, if_pos (nI_le (Nat.le_refl _) (by omega)), wr_gN h0 hfs, wr_ldI h3 (by omega) (by omega)]
    exact ⟨w, rfl, ⟨g, h3⟩, fun _ _ => rfl⟩
  | succ k ih =>
    intro f d w g h0 h3 h1 h2 h4
    obtain ⟨f, rfl⟩ : ∃ y, f = y + 1 := ⟨f - 1, by omega⟩
    obtain ⟨w1, e1, e2, e3⟩ := jl_inW hfs (fX3_justOfLength_b2 f) hN h2 (by omega) 21 mg_N (2 * d) w g h0 h3 (by omega) (by unfold mg_N; omega) (by omega)
    obtain ⟨w2, f1, f2, f3⟩ := ih f (d + 1) w1 _ (by rw [e3 _ (by omega)]; exact h0) e2 (by omega) (by omega) (by omega)
    rw [fX3_justOfLength_b2, if_neg (nI_ge (by omega) (by omega)), nu_2, e1, f1]
    exact ⟨w2, rfl, f2, fun x hx => by rw [f3 x hx, e3 x hx]⟩
theorem st_just {fs : List Value} (hfs : fs[2]? = some (.ref (z + 3))) {N : Nat} (hN1 : 1 ≤ N) (hN : N ≤ 20) {g : Nat → Int32} (h0 : w z = some (.inl (3, fs))) (h3 : w (z + 3) = some (.inr (0, 512, .inl g))) : ∃ w2, fX3_justOfLength z (nI N) w = some (mb_F N g N, w2) ∧ (∃ g2, w2 (z + 3) = some (.inr (0, 512, .inl g2))) ∧ ∀ x, x ≠ z + 3 → w2 x = w x := by
  obtain ⟨w2, e1, e2, e3⟩ := jl_outW hfs hN1 hN (N - 1) mg_N 1 w g h0 h3 (by omega) (by omega) (by unfold mg_N; omega)
  rw [mb_all g N hN1 hN] at e1
  exact ⟨w2, e1, e2, e3⟩
def al_g (k : Nat) : Int32 := nI (2 ^ k - 1)
theorem mb_cong {N : Nat} {g g2 : Nat → Int32} : ∀ d, (∀ k, 1 ≤ k → k ≤ d → g k = g2 k) → mb_F N g d = mb_F N g2 d
  | 0, _ => rfl
  | d + 1, h => by rw [mb_F, mb_F, mb_cong d (fun k h1 h2 => h k h1 (by omega)), h (d + 1) (by omega) (by omega)]
theorem ca_all {fs : List Value} (hfs : fs[2]? = some (.ref (z + 3))) {N : Nat} (hN1 : 1 ≤ N) (hN : N ≤ 20) : ∀ (k f d : Nat) (w : mg_H) (g : Nat → Int32), w z = some (.inl (3, fs)) → w (z + 3) = some (.inr (0, 512, .inl g)) → d + k = N + 1 → 1 ≤ d → k < f → (∀ i, 1 ≤ i → i < d → g i = al_g i) → ∃ w2, fX3_all_b11 f z (nI N) (nI d) w = some (mb_F N al_g N, w2) ∧ (∃ g2, w2 (z + 3) = some (.inr (0, 512, .inl g2))) ∧ ∀ x, x ≠ z + 3 → w2 x = w x := by
  intro k
  induction k with
  | zero =>
    intro f d w g h0 h3 h1 h2 h4 h5
    obtain ⟨f, rfl⟩ : ∃ y, f = y + 1 := ⟨f - 1, by omega⟩
    obtain ⟨w2, e1, e2, e3⟩ := st_just (w := w) hfs hN1 hN h0 h3
    rw [fX3_all_b11, if_pos (nI_lt (by omega) (by omega))]
    unfold fX3_all_b32
    rw [wr_rc h0, e1, mb_cong N (fun i h6 h7 => h5 i h6 (by omega))]
    exact ⟨w2, rfl, e2, e3⟩
  | succ k ih =>
    intro f d w g h0 h3 h1 h2 h4 h5
    obtain ⟨f, rfl⟩ : ∃ y, f = y + 1 := ⟨f - 1, by omega⟩
    rw [fX3_all_b11, if_neg (nI_nlt (by omega) (by omega)), wr_gN h0 hfs, st_ones d (by omega), Option.bind_some, wr_stI h3 (by omega) (by omega), Option.bind_some, show nI d + 1 = nI (d + 1) from nI_1 d]
    obtain ⟨w2, e1, e2, e3⟩ := ih f (d + 1) (mg_set w (z + 3) (.inr (0, 512, .inl (upd g d (nI (2 ^ d - 1)))))) (upd g d (nI (2 ^ d - 1))) (by rw [wr_ne (by omega)]; exact h0) (wr_set _ _ _) (by omega) (by omega) (by omega) (fun i h6 h7 => by
      by_cases c : i = d
      · subst c; simp [upd, al_g]
      · simp only [upd, if_neg c]; exact h5 i h6 (by omega))
    exact ⟨w2, e1, e2, fun x hx => by rw [e3 x hx, wr_ne hx]⟩
theorem nu_mod0 {a d : Nat} (ha : a < 2 ^ 31) (h0 : 0 < d) (hd : d < 2 ^ 31) : nI a - nI a / nI d * nI d = 0 ↔ a % d = 0 := by
  rw [pk_rem ha h0 hd]
  exact nI_eq (b := 0) (Nat.lt_trans (Nat.mod_lt _ h0) hd) (by omega)
theorem ma_all {N : Nat} (hN1 : 1 ≤ N) (hN : N ≤ 20) : ∀ (k f d : Nat), d + k = N → k < f → fX4_all_b18 f (nI N) (mb_F N al_g d) (nI (d + 1)) = some (mb_F N al_g N) := by
  intro k
  induction k with
  | zero =>
    intro f d h1 h2
    obtain ⟨f, rfl⟩ : ∃ y, f = y + 1 := ⟨f - 1, by omega⟩
    have e : d = N := by omega
    subst e
    rw [fX4_all_b18, if_pos (nI_lt (by omega) (by omega))]
  | succ k ih =>
    intro f d h1 h2
    obtain ⟨f, rfl⟩ : ∃ y, f = y + 1 := ⟨f - 1, by omega⟩
    have hne : ¬ nI (d + 1) = 0 := nI_ne0 (by omega) (by omega)
    have := ih f (d + 1) (by omega) (by omega)
    rw [mb_F] at this
    rw [fX4_all_b18, if_neg (nI_nlt (by omega) (by omega)), if_neg hne, if_neg hne, nu_ite (nu_mod0 (by omega) (by omega) (by omega)), pk_div (by omega) (by omega) (by omega)]
    have o1 := st_ones (d + 1) (by omega)
    unfold fX3_ones at o1
    rw [Option.some.inj o1]
    by_cases c : N % (d + 1) = 0
    · rw [if_pos c] at this ⊢
      have hq1 : 1 ≤ N / (d + 1) := Nat.div_pos (by omega) (by omega)
      have hq2 : N / (d + 1) ≤ N := Nat.div_le_self _ _
      rw [st_mu _ (by omega) hq1, Option.bind_some]
      unfold fX4_all_b46
      rw [show nI (d + 1) + 1 = nI (d + 1 + 1) from nI_1 (d + 1)]
      exact this
    · rw [if_neg c] at this ⊢
      unfold fX4_all_b46
      rw [show nI (d + 1) + 1 = nI (d + 1 + 1) from nI_1 (d + 1)]
      exact this
theorem j_all (hc : ws_C z w sz n A S tL tG tU pa) (hm : ws_M z w n A S pl ps pg) (x1 : Int32) : ∃ r w1, fX3_all z x1 w = some (r, w1) ∧ fX4_all (z + 4) x1 = some r ∧ ws_C z w1 sz n A S tL tG tU pa ∧ ws_M z w1 n A S pl ps pg := by
  unfold fX3_all fX4_all
  rw [st_isLength, Option.bind_some, nu_sel, st_inI (a := 1) (b := 20) rfl rfl, Option.bind_some, nu_sel]
  by_cases c : 1 ≤ x1.toInt ∧ x1.toInt ≤ 20
  · rw [if_pos c, if_pos c]
    obtain ⟨N, hN1, hN, rfl⟩ := nu_rg (a := 1) (b := 20) (by omega) c
    obtain ⟨⟨fs, h0, hfs⟩, g, h3⟩ := ct_gR hc
    obtain ⟨w2, e1, ⟨g2, e2⟩, e3⟩ := ca_all hfs hN1 hN N mg_N 1 w g h0 h3 (by omega) (by omega) (by unfold mg_N; omega) (fun i h1 h2 => by omega)
    obtain ⟨hc2, hf2⟩ := ct_row hc e2 e3
    exact ⟨_, w2, e1, ma_all hN1 hN N mg_N 0 (by omega) (by unfold mg_N; omega), hc2, ws_Mkeep hf2 hm⟩
  · rw [if_neg c, if_neg c]
    exact ⟨_, w, rfl, rfl, hc, hm⟩
end AL
