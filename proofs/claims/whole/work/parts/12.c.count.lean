/-! counts -/
def ct_F (p : Nat → Bool) : Nat → Nat
  | 0 => 0
  | n + 1 => ct_F p n + if p n then 1 else 0
theorem ct_le (p : Nat → Bool) : ∀ n, ct_F p n ≤ n
  | 0 => Nat.le_refl 0
  | n + 1 => by
    have := ct_le p n
    rw [ct_F]
    split <;> omega
/-- no ANGLE ahead of j is q -/
def fr_F (A : ws_A) (q : Nat × Nat) : Nat → Bool
  | 0 => true
  | j + 1 => fr_F A q j && decide (A j ≠ q)
theorem fr_mono {A : ws_A} {q : Nat × Nat} {j : Nat} (h : fr_F A q j = false) : ∀ d, fr_F A q (j + d) = false
  | 0 => h
  | d + 1 => by
    show fr_F A q (j + d + 1) = false
    rw [fr_F, fr_mono h d, Bool.false_and]
section JC
variable {z sz n : Nat} {w : mg_H} {A : ws_A} {S : ws_S} {tL tG tU pl : Nat → Int32} {ps pg : Nat → Int64} {pa : Option Nat}
theorem cc_back (hc : ws_C z w sz n A S tL tG tU pa) : ∀ (d f k : Nat), k + d = n → d < f → fX3_amountThatComesBack_b4 w f z (nI (ct_F (fun k => (A k).2 % 2 == 1) k)) (nI k) = some (nI (ct_F (fun k => (A k).2 % 2 == 1) n)) := by
  obtain ⟨_, hz⟩ := ct_z hc
  have hn := ct_n hc
  have hg : mg_gI w 3 z 3 = some (nI n) := by
    obtain ⟨fT, fS, fR, h0, -⟩ := hc
    exact wr_gI h0 rfl
  intro d
  induction d with
  | zero =>
    intro f k h1 h2
    obtain ⟨f, rfl⟩ : ∃ y, f = y + 1 := ⟨f - 1, by omega⟩
    have e : k = n := by omega
    subst e
    rw [fX3_amountThatComesBack_b4, hg, Option.bind_some, if_pos (nI_le (Nat.le_refl _) (by omega))]
  | succ d ih =>
    intro f k h1 h2
    obtain ⟨f, rfl⟩ : ∃ y, f = y + 1 := ⟨f - 1, by omega⟩
    have hk : k < n := by omega
    obtain ⟨a, e1, -, e2⟩ := ct_at hc hk
    have ho := ct_ok hc hk
    have := ih f (k + 1) (by omega) (by omega)
    rw [ct_F] at this
    rw [fX3_amountThatComesBack_b4, hg, Option.bind_some, if_neg (nI_ge hk (by omega)), wr_rc hz, e1, Option.bind_some]
    simp only [mg_if0, tu_rc e2, tu_back e2 ho, Option.bind_some, nu_sel, fX3_amountThatComesBack_b32, show nI k + 1 = nI (k + 1) from nI_1 k]
    by_cases c : (A k).2 % 2 = 1
    · rw [if_pos c, show nI (ct_F (fun k => (A k).2 % 2 == 1) k) + 1 = nI (ct_F (fun k => (A k).2 % 2 == 1) k + 1) from nI_1 _]
      rw [if_pos (by rw [c]; rfl)] at this
      exact this
    · rw [if_neg c]
      rw [if_neg (by simpa using c)] at this
      exact this
theorem cc_came (hc : ws_C z w sz n A S tL tG tU pa) {k : Nat} (hk : k < n) {a : Nat} (ha : w a = some (ws_turn (A k))) : ∀ (d f j : Nat), j + d = k → d < f → fr_F A (A k) j = true → fX3_cameEarlier_b8 w f z (nI k) (some a) (nI j) = some (if fr_F A (A k) k then 0 else 1) := by
  obtain ⟨_, hz⟩ := ct_z hc
  have hn := ct_n hc
  have ho := ct_ok hc hk
  intro d
  induction d with
  | zero =>
    intro f j h1 h2 h3
    obtain ⟨f, rfl⟩ : ∃ y, f = y + 1 := ⟨f - 1, by omega⟩
    have e : j = k := by omega
    subst e
    rw [fX3_cameEarlier_b8, if_pos (nI_le (Nat.le_refl _) (by omega)), if_pos h3]
  | succ d ih =>
    intro f j h1 h2 h3
    obtain ⟨f, rfl⟩ : ∃ y, f = y + 1 := ⟨f - 1, by omega⟩
    have hj : j < n := by omega
    obtain ⟨b, e1, -, e2⟩ := ct_at hc hj
    have ho2 := ct_ok hc hj
    rw [fX3_cameEarlier_b8, if_neg (nI_ge (by omega) (by omega))]
    simp only [mg_if0, wr_rc hz, e1, Option.bind_some, tu_rc ha, tu_against ha ho e2 ho2, nu_sg0, fX3_cameEarlier_b40, show nI j + 1 = nI (j + 1) from nI_1 j]
    by_cases c : (A k).1 * (A j).2 = (A j).1 * (A k).2
    · have e3 := fr_eq ho ho2 c
      have e4 : fr_F A (A k) (j + 1) = false := by rw [fr_F, ← e3]; simp
      have e5 := fr_mono e4 d
      rw [if_pos c, show k = j + 1 + d by omega, ← show k = j + 1 + d by omega, ← show j + 1 + d = k by omega]
      rw [show (j + 1 + d) = k by omega] at e5 ⊢
      rw [e5]
      rfl
    · rw [if_neg c]
      refine ih f (j + 1) (by omega) (by omega) ?_
      rw [fr_F, h3, Bool.true_and]
      exact decide_eq_true (fun q => c (by rw [q]))
theorem cc_unlike (hc : ws_C z w sz n A S tL tG tU pa) : ∀ (d f k : Nat), k + d = n → d < f → fX3_amountOfUnlike_b4 w f z (nI (ct_F (fun k => fr_F A (A k) k) k)) (nI k) = some (nI (ct_F (fun k => fr_F A (A k) k) n)) := by
  obtain ⟨_, hz⟩ := ct_z hc
  have hn := ct_n hc
  have hg : mg_gI w 3 z 3 = some (nI n) := by
    obtain ⟨fT, fS, fR, h0, -⟩ := hc
    exact wr_gI h0 rfl
  intro d
  induction d with
  | zero =>
    intro f k h1 h2
    obtain ⟨f, rfl⟩ : ∃ y, f = y + 1 := ⟨f - 1, by omega⟩
    have e : k = n := by omega
    subst e
    rw [fX3_amountOfUnlike_b4, hg, Option.bind_some, if_pos (nI_le (Nat.le_refl _) (by omega))]
  | succ d ih =>
    intro f k h1 h2
    obtain ⟨f, rfl⟩ : ∃ y, f = y + 1 := ⟨f - 1, by omega⟩
    have hk : k < n := by omega
    obtain ⟨a, e1, -, e2⟩ := ct_at hc hk
    have := ih f (k + 1) (by omega) (by omega)
    rw [ct_F] at this
    rw [fX3_amountOfUnlike_b4, hg, Option.bind_some, if_neg (nI_ge hk (by omega)), wr_rc hz]
    unfold fX3_cameEarlier
    rw [wr_rc hz, e1, Option.bind_some, show (0 : Int32) = nI 0 from rfl, cc_came hc hk e2 k mg_N 0 (by omega) (by unfold mg_N; omega) rfl, Option.bind_some]
    simp only [fX3_amountOfUnlike_b23, show nI k + 1 = nI (k + 1) from nI_1 k]
    cases c : fr_F A (A k) k with
    | true =>
      rw [c, if_pos rfl] at this
      rw [if_pos rfl, show nI (ct_F (fun k => fr_F A (A k) k) k) + 1 = nI (ct_F (fun k => fr_F A (A k) k) k + 1) from nI_1 _]
      exact this
    | false =>
      rw [c, if_neg (by decide)] at this
      exact this
theorem mc_fresh (hm : ws_M z w n A S pl ps pg) (r7 : Nat → Int32 → Int32 → Int32 → Int32 → Option Int32) {k : Nat} (hk : k < n) (x1 x2 x3 : Int32) : ∀ (d f j : Nat), j + d = k → d < f → fX4_count_b39 w r7 f (z + 4) x1 x2 x3 (nI k) (if fr_F A (A k) j then 1 else 0) (nI j) = fX4_count_b75 w r7 (z + 4) x1 x2 x3 (nI k) (if fr_F A (A k) k then 1 else 0) := by
  obtain ⟨_, hz⟩ := mt_z hm
  have hn := mt_n hm
  intro d
  induction d with
  | zero =>
    intro f j h1 h2
    obtain ⟨f, rfl⟩ : ∃ y, f = y + 1 := ⟨f - 1, by omega⟩
    have e : j = k := by omega
    subst e
    rw [fX4_count_b39, if_pos (nI_le (Nat.le_refl _) (by omega))]
  | succ d ih =>
    intro f j h1 h2
    obtain ⟨f, rfl⟩ : ∃ y, f = y + 1 := ⟨f - 1, by omega⟩
    have hj : j < n := by omega
    have := ih f (j + 1) (by omega) (by omega)
    rw [fr_F] at this
    rw [fX4_count_b39, if_neg (nI_ge (by omega) (by omega)), wr_rc hz, mt_same hm hk hj, Option.bind_some]
    simp only [nu_sel, fX4_count_b66, fX4_count_b67, show nI j + 1 = nI (j + 1) from nI_1 j]
    cases c : fr_F A (A k) j with
    | false =>
      rw [c, Bool.false_and] at this
      rw [if_neg (show ¬ false = true by decide)]
      exact this
    | true =>
      rw [c, Bool.true_and] at this
      rw [if_pos rfl]
      by_cases e : A k = A j
      · rw [if_pos e]
        rw [decide_eq_false (fun q => q e.symm)] at this
        exact this
      · rw [if_neg e]
        rw [decide_eq_true (show A j ≠ A k from fun q => e q.symm)] at this
        exact this
theorem mc_count (hm : ws_M z w n A S pl ps pg) (x1 : Int32) : ∀ (d f k : Nat), k + d = n → d < f → fX4_count_b7 w f (z + 4) x1 (nI (ct_F (fun k => (A k).2 % 2 == 1) k)) (nI (ct_F (fun k => fr_F A (A k) k) k)) (nI k) = fX4_count_b94 w (z + 4) x1 (nI (ct_F (fun k => (A k).2 % 2 == 1) n)) (nI (ct_F (fun k => fr_F A (A k) k) n)) := by
  obtain ⟨_, hz⟩ := mt_z hm
  have hn := mt_n hm
  have hg : mg_gI w 4 (z + 4) 0 = some (nI n) := by
    obtain ⟨ft, fd, fh, fl, fs, fc, gl, gs, gg, h4, -⟩ := hm
    exact wr_gI h4 rfl
  intro d
  induction d with
  | zero =>
    intro f k h1 h2
    obtain ⟨f, rfl⟩ : ∃ y, f = y + 1 := ⟨f - 1, by omega⟩
    have e : k = n := by omega
    subst e
    rw [fX4_count_b7, hg, Option.bind_some, if_pos (nI_le (Nat.le_refl _) (by omega))]
  | succ d ih =>
    intro f k h1 h2
    obtain ⟨f, rfl⟩ : ∃ y, f = y + 1 := ⟨f - 1, by omega⟩
    have hk : k < n := by omega
    have := ih f (k + 1) (by omega) (by omega)
    rw [ct_F, ct_F] at this
    rw [fX4_count_b7, hg, Option.bind_some, if_neg (nI_ge hk (by omega)), wr_rc hz, mt_back hm hk, Option.bind_some]
    have fresh : ∀ u : Int32, fX4_count_b39 w (fX4_count_b7 w f) mg_N (z + 4) x1 u (nI (ct_F (fun k => fr_F A (A k) k) k)) (nI k) 1 0 = fX4_count_b7 w f (z + 4) x1 u (nI (ct_F (fun k => fr_F A (A k) k) k + if fr_F A (A k) k then 1 else 0)) (nI (k + 1)) := by
      intro u
      rw [show (0 : Int32) = nI 0 from rfl]
      refine (mc_fresh hm _ hk x1 u _ k mg_N 0 (by omega) (by unfold mg_N; omega)).trans ?_
      unfold fX4_count_b75 fX4_count_b86
      simp only [show nI k + 1 = nI (k + 1) from nI_1 k]
      cases fr_F A (A k) k with
      | true => rw [if_neg (by decide), show nI (ct_F (fun k => fr_F A (A k) k) k) + 1 = nI (ct_F (fun k => fr_F A (A k) k) k + 1) from nI_1 _]; rfl
      | false => rw [if_pos (by decide), show nI (ct_F (fun k => fr_F A (A k) k) k) + 0 = nI (ct_F (fun k => fr_F A (A k) k) k + 0) from nI_add _ 0]; rfl
    simp only [nu_sel, fX4_count_b31]
    rw [fresh, fresh]
    by_cases c : (A k).2 % 2 = 1
    · rw [if_pos c, show nI (ct_F (fun k => (A k).2 % 2 == 1) k) + 1 = nI (ct_F (fun k => (A k).2 % 2 == 1) k + 1) from nI_1 _]
      rw [if_pos (show ((A k).2 % 2 == 1) = true by rw [c]; rfl)] at this
      exact this
    · rw [if_neg c, show nI (ct_F (fun k => (A k).2 % 2 == 1) k) + 0 = nI (ct_F (fun k => (A k).2 % 2 == 1) k + 0) from nI_add _ 0]
      rw [if_neg (show ¬ ((A k).2 % 2 == 1) = true by simpa using c)] at this
      exact this
theorem j_count (hc : ws_C z w sz n A S tL tG tU pa) (hm : ws_M z w n A S pl ps pg) (x1 : Int32) : ∃ r, fX3_count z x1 w = some r ∧ fX4_count (z + 4) x1 w = some r := by
  obtain ⟨_, hz⟩ := ct_z hc
  have hg : mg_gI w 3 z 3 = some (nI n) := by
    obtain ⟨fT, fS, fR, h0, -⟩ := hc
    exact wr_gI h0 rfl
  have hg4 : mg_gI w 4 (z + 4) 0 = some (nI n) := by
    obtain ⟨ft, fd, fh, fl, fs, fc, gl, gs, gg, h4, -⟩ := hm
    exact wr_gI h4 rfl
  have hn := ct_n hc
  have e1 := cc_back hc n mg_N 0 (by omega) (by unfold mg_N; omega)
  have e2 := cc_unlike hc n mg_N 0 (by omega) (by unfold mg_N; omega)
  have e3 := mc_count hm x1 n mg_N 0 (by omega) (by unfold mg_N; omega)
  unfold fX3_count fX4_count fX3_amountThatComesBack fX3_amountOfUnlike
  rw [show (0 : Int32) = nI 0 from rfl] at *
  have z1 : ct_F (fun k => (A k).2 % 2 == 1) 0 = 0 := rfl
  have z2 : ct_F (fun k => fr_F A (A k) k) 0 = 0 := rfl
  rw [z1] at e1 e3
  rw [z2] at e2 e3
  rw [wr_rc hz, wr_rc hz, e1, e2, e3, hg]
  unfold fX4_count_b94
  rw [hg4]
  simp only [Option.bind_some]
  rw [show (0 : Int32) = nI 0 from rfl]
  by_cases c0 : x1 = nI 0
  · rw [if_pos c0]; exact ⟨_, rfl, rfl⟩
  · rw [if_neg c0]
    by_cases c1 : x1 = 1
    · rw [if_pos c1]; exact ⟨_, rfl, rfl⟩
    · rw [if_neg c1]
      by_cases c2 : x1 = 2
      · rw [if_pos c2]; exact ⟨_, rfl, rfl⟩
      · rw [if_neg c2]; exact ⟨_, rfl, rfl⟩
end JC
