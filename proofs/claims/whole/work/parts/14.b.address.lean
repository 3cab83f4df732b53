/-! address -/
def ad_l (q : Nat × Nat) (j : Nat) : Nat := nt_S (q.1 * 2 ^ j % q.2) q.2 q.1 q.2
theorem ad_two {q : Nat × Nat} (h : q.1 < q.2) (j : Nat) : ad_l q j = 2 ↔ q.1 * 2 ^ (j + 1) % q.2 = q.1 := by
  obtain ⟨a, b⟩ := q
  have h : a < b := h
  show nt_S (a * 2 ^ j % b) b a b = 2 ↔ a * 2 ^ (j + 1) % b = a
  have hv : a * 2 ^ j % b < b := Nat.mod_lt _ (by omega)
  have e : a * 2 ^ (j + 1) % b = 2 * (a * 2 ^ j % b) % b := by rw [Nat.mul_mod_mod, Nat.pow_succ, Nat.mul_comm 2, Nat.mul_assoc]
  rw [e]
  generalize a * 2 ^ j % b = v at hv
  unfold nt_S
  have k1 : 2 * v * b = a * b ↔ 2 * v = a := ⟨fun q => Nat.eq_of_mul_eq_mul_right (by omega) q, fun q => by rw [q]⟩
  have k2 : 2 * v * b = (a + b) * b ↔ 2 * v = a + b := ⟨fun q => Nat.eq_of_mul_eq_mul_right (by omega) q, fun q => by rw [q]⟩
  rw [nu_ite (c := 2 * v * b = a * b ∨ 2 * v * b = (a + b) * b) (d := 2 * v = a ∨ 2 * v = a + b) (by rw [k1, k2])]
  have k3 : 2 * v % b = if 2 * v < b then 2 * v else 2 * v - b := by
    by_cases c : 2 * v < b
    · rw [if_pos c, Nat.mod_eq_of_lt c]
    · rw [if_neg c, Nat.mod_eq_sub_mod (by omega), Nat.mod_eq_of_lt (by omega)]
  rw [k3]
  by_cases c : 2 * v = a ∨ 2 * v = a + b
  · rw [if_pos c]
    refine ⟨fun _ => ?_, fun _ => rfl⟩
    split <;> omega
  · rw [if_neg c]
    constructor
    · intro q
      split at q <;> omega
    · intro q
      split at q <;> omega
theorem ad_ring {q : Nat × Nat} (ho : ws_ok q) (hodd : q.2 % 2 = 1) (k : Nat) : q.1 * 2 ^ k % q.2 = q.1 ↔ 2 ^ k % nt_O q.2 = 1 % nt_O q.2 := by
  have hl := nt_Glt ho.2.2
  have := nt_ring (k := k) ho.2.1 hl.1 (show q.2 < 2 ^ 22 by omega)
  rw [(nt_Todd hl.1 (by omega)).mpr hodd, Nat.pow_zero, Nat.mul_one, Nat.mod_eq_of_lt ho.1] at this
  exact this
theorem ad_last {q : Nat × Nat} (ho : ws_ok q) (hodd : q.2 % 2 = 1) : ad_l q (nt_L q.2 - 1) = 2 := by
  obtain ⟨a1, a2, a3, a4, a5⟩ := nt_Lspec ho.2.2
  rw [ad_two ho.1, show nt_L q.2 - 1 + 1 = nt_L q.2 by omega, ad_ring ho hodd]
  exact a4
theorem ad_none {q : Nat × Nat} (ho : ws_ok q) (hodd : q.2 % 2 = 1) {j : Nat} (hj : j + 1 < nt_L q.2) : ¬ ad_l q j = 2 := by
  obtain ⟨a1, a2, a3, a4, a5⟩ := nt_Lspec ho.2.2
  rw [ad_two ho.1, ad_ring ho hodd]
  exact a5 (j + 1) (by omega) hj
/-- behind s: the least j from j on, up to N -/
def ad_nx (q : Nat × Nat) (s : Nat) : Nat → Nat → Nat
  | 0, j => j
  | d + 1, j => if ad_l q (j - 1) = ad_l q (j - 1 - s) then ad_nx q s d (j + 1) else j
theorem ad_nxb (q : Nat × Nat) (s : Nat) : ∀ d j, j ≤ ad_nx q s d j ∧ ad_nx q s d j ≤ j + d
  | 0, j => ⟨Nat.le_refl _, Nat.le_refl _⟩
  | d + 1, j => by
    rw [ad_nx]
    have := ad_nxb q s d (j + 1)
    split <;> omega
def ad_F (q : Nat × Nat) : Nat → Nat → Int32
  | 0, s => nI s
  | k + 1, s => if s = nt_L q.2 then -4 else ad_F q k (ad_nx q s (nt_L q.2 - s - 1) (s + 1))
section AD
variable {z sz n : Nat} {w : mg_H} {A : ws_A} {S : ws_S} {tL tG tU pl : Nat → Int32} {ps pg : Nat → Int64} {pa : Option Nat}
theorem ca_write {fs : List Value} (hfs : fs[2]? = some (.ref (z + 3))) {a : Nat} {q : Nat × Nat} (ha : a ≠ z + 3) (ho : ws_ok q) : ∀ (d f j : Nat) (w : mg_H) (g : Nat → Int32), w z = some (.inl (3, fs)) → w (z + 3) = some (.inr (0, 512, .inl g)) → w a = some (ws_turn q) → j + d = nt_L q.2 → d < f → (∀ i, i < j → g i = nI (ad_l q i)) → ∃ w2 g2, fX3_writeInner_b7 f z a (nI (q.1 * 2 ^ j % q.2)) (nI j) w = some ((), w2) ∧ w2 (z + 3) = some (.inr (0, 512, .inl g2)) ∧ (∀ x, x ≠ z + 3 → w2 x = w x) ∧ ∀ i, i < nt_L q.2 → g2 i = nI (ad_l q i) := by
  have hl := nt_Glt ho.2.2
  obtain ⟨a1, a2, -⟩ := nt_Lspec ho.2.2
  have hq := ho.1
  intro d
  induction d with
  | zero =>
    intro f j w g h0 h3 h4 h1 h2 h5
    obtain ⟨f, rfl⟩ : ∃ y, f = y + 1 := ⟨f - 1, by omega⟩
    have e : j = nt_L q.2 := by omega
    subst e
    rw [fX3_writeInner_b7, (tu_g h4).2.2.2, Option.bind_some, if_pos (nI_le (Nat.le_refl _) (by omega))]
    exact ⟨w, g, rfl, h3, fun _ _ => rfl, h5⟩
  | succ d ih =>
    intro f j w g h0 h3 h4 h1 h2 h5
    obtain ⟨f, rfl⟩ : ∃ y, f = y + 1 := ⟨f - 1, by omega⟩
    have hv : q.1 * 2 ^ j % q.2 < q.2 := Nat.mod_lt _ hl.1
    rw [fX3_writeInner_b7, (tu_g h4).2.2.2, Option.bind_some, if_neg (nI_ge (by omega) (by omega)), wr_gN h0 hfs, wr_len h3 (by omega), Option.bind_some, if_neg (nI_ge (b := 512) (by omega) (by omega)), wr_gN h0 hfs, (tu_g h4).2.1, Option.bind_some, tu_rc h4, tu_letter h4 ho (by omega) (by omega), Option.bind_some, wr_stI h3 (by omega) (by omega), Option.bind_some]
    have k4 : mg_set w (z + 3) (.inr (0, 512, .inl (upd g j (nI (nt_S (q.1 * 2 ^ j % q.2) q.2 q.1 q.2))))) a = some (ws_turn q) := by rw [wr_ne ha]; exact h4
    rw [(tu_g k4).2.1, Option.bind_some, st_twice hv (by omega), Option.bind_some, show nI j + 1 = nI (j + 1) from nI_1 j, show 2 * (q.1 * 2 ^ j % q.2) % q.2 = q.1 * 2 ^ (j + 1) % q.2 by rw [Nat.mul_mod_mod, Nat.pow_succ, Nat.mul_comm 2, Nat.mul_assoc]]
    obtain ⟨w2, g2, e1, e2, e3, e4⟩ := ih f (j + 1) _ _ (by rw [wr_ne (by omega)]; exact h0) (wr_set _ _ _) k4 (by omega) (by omega) (fun i hi => by
      by_cases c : i = j
      · subst c; simp [upd, ad_l]
      · simp only [upd, if_neg c]; exact h5 i (by omega))
    exact ⟨w2, g2, e1, e2, fun x hx => by rw [e3 x hx, wr_ne hx], e4⟩
theorem ad_lt3 (q : Nat × Nat) (j : Nat) : ad_l q j < 2 ^ 31 := by
  have := nt_Sle (q.1 * 2 ^ j % q.2) q.2 q.1 q.2
  unfold ad_l
  omega
theorem ca_next {fs : List Value} (hfs : fs[2]? = some (.ref (z + 3))) {q : Nat × Nat} (ho : ws_ok q) {g : Nat → Int32} (h0 : w z = some (.inl (3, fs))) (h3 : w (z + 3) = some (.inr (0, 512, .inl g))) (hg : ∀ i, i < nt_L q.2 → g i = nI (ad_l q i)) {s : Nat} (hs : 1 ≤ s) : ∀ (d f j : Nat), j + d = nt_L q.2 → s < j → d < f → fX3_nextInAddress_b4 w f z (nI s) (nI (nt_L q.2)) (nI j) = some (nI (ad_nx q s d j)) := by
  obtain ⟨a1, a2, -⟩ := nt_Lspec ho.2.2
  intro d
  induction d with
  | zero =>
    intro f j h1 h2 h4
    obtain ⟨f, rfl⟩ : ∃ y, f = y + 1 := ⟨f - 1, by omega⟩
    have e : j = nt_L q.2 := by omega
    subst e
    rw [fX3_nextInAddress_b4, if_pos (nI_le (Nat.le_refl _) (by omega)), ad_nx]
  | succ d ih =>
    intro f j h1 h2 h4
    obtain ⟨f, rfl⟩ : ∃ y, f = y + 1 := ⟨f - 1, by omega⟩
    rw [fX3_nextInAddress_b4, if_neg (nI_ge (by omega) (by omega)), wr_gN h0 hfs, wr_len h3 (by omega), Option.bind_some, if_neg (nI_nlt (b := j) (a := 512) (by omega) (by omega)), wr_gN h0 hfs, show nI j - 1 = nI (j - 1) from pk_sub (b := 1) (by omega), wr_ldI h3 (by omega) (by omega), Option.bind_some, wr_gN h0 hfs, pk_sub (by omega), wr_ldI h3 (by omega) (by omega), Option.bind_some, hg _ (by omega), hg _ (by omega), ad_nx, show nI j + 1 = nI (j + 1) from nI_1 j]
    rw [nu_ite (nI_eq (ad_lt3 q (j - 1)) (ad_lt3 q (j - 1 - s)))]
    by_cases c : ad_l q (j - 1) = ad_l q (j - 1 - s)
    · rw [if_pos c, if_pos c]
      exact ih f (j + 1) (by omega) (by omega) (by omega)
    · rw [if_neg c, if_neg c]
theorem ca_addr {fs : List Value} (hfs : fs[2]? = some (.ref (z + 3))) {q : Nat × Nat} {a : Nat} (ho : ws_ok q) {g : Nat → Int32} (h0 : w z = some (.inl (3, fs))) (h3 : w (z + 3) = some (.inr (0, 512, .inl g))) (h4 : w a = some (ws_turn q)) (hg : ∀ i, i < nt_L q.2 → g i = nI (ad_l q i)) {I : Nat} (hI : I < 2 ^ 31) : ∀ (d f k s : Nat), k + d = I → 1 ≤ s → s ≤ nt_L q.2 → d < f → fX3_address_b37 f z (nI I) a (nI s) (nI k) w = some (ad_F q d s, w) := by
  obtain ⟨a1, a2, -⟩ := nt_Lspec ho.2.2
  intro d
  induction d with
  | zero =>
    intro f k s h1 h2 h5 h6
    obtain ⟨f, rfl⟩ : ∃ y, f = y + 1 := ⟨f - 1, by omega⟩
    have e : k = I := by omega
    subst e
    rw [fX3_address_b37, if_pos (nI_le (Nat.le_refl _) (by omega)), ad_F]
  | succ d ih =>
    intro f k s h1 h2 h5 h6
    obtain ⟨f, rfl⟩ : ∃ y, f = y + 1 := ⟨f - 1, by omega⟩
    rw [fX3_address_b37, if_neg (nI_ge (by omega) (by omega)), (tu_g h4).2.2.2, Option.bind_some, ad_F]
    by_cases c : s = nt_L q.2
    · rw [if_neg (nI_nlt (by omega) (by omega)), if_pos c]
    · have hb := ad_nxb q s (nt_L q.2 - s - 1) (s + 1)
      rw [if_pos (nI_lt (by omega) (by omega)), if_neg c, Option.bind_some, wr_rc h0]
      unfold fX3_nextInAddress
      rw [show nI s + 1 = nI (s + 1) from nI_1 s, ca_next hfs ho h0 h3 hg h2 (nt_L q.2 - s - 1) mg_N (s + 1) (by omega) (by omega) (by unfold mg_N; omega), Option.bind_some, show nI k + 1 = nI (k + 1) from nI_1 k]
      exact ih f (k + 1) _ (by omega) (by omega) (by omega) (by omega)
theorem ma_letter (hm : ws_M z w n A S pl ps pg) {k : Nat} (hk : k < n) {j : Nat} (hj : j < 2 ^ 31) : fX4_letterOf (z + 4) (nI k) (nI k) (nI j) w = some (nI (ad_l (A k) j)) := by
  obtain ⟨g1, g2, g3, g4, g5⟩ := mt_at hm hk
  have ho := mt_ok hm hk
  have hl := nt_Glt ho.2.2
  have hq := ho.1
  have hv : (A k).1 * 2 ^ j % (A k).2 < (A k).2 := Nat.mod_lt _ hl.1
  unfold fX4_letterOf
  simp only [g2, g3, g4, g5, Option.bind_some]
  rw [st_after hq (by omega) hj, Option.bind_some, st_side (by omega) (by omega) (by omega) (by omega)]
  rfl
theorem ma_next (hm : ws_M z w n A S pl ps pg) (r41 : Nat → Int32 → Int32 → Int32 → Int32 → Int32 → Option Int32) {k : Nat} (hk : k < n) (hodd : (A k).2 % 2 = 1) (x2 x3 x5 : Int32) {s : Nat} (hs : 1 ≤ s) : ∀ (d f j : Nat), j + d = nt_L (A k).2 → s < j → d < f → fX4_address_b62 w r41 f (z + 4) (nI k) x2 x3 (nI s) x5 (nI j) = r41 (z + 4) (nI k) x2 x3 (nI (ad_nx (A k) s d j)) (x5 + 1) := by
  obtain ⟨_, hz⟩ := mt_z hm
  have ho := mt_ok hm hk
  obtain ⟨a1, a2, -⟩ := nt_Lspec ho.2.2
  intro d
  induction d with
  | zero =>
    intro f j h1 h2 h4
    obtain ⟨f, rfl⟩ : ∃ y, f = y + 1 := ⟨f - 1, by omega⟩
    have e : j = nt_L (A k).2 := by omega
    subst e
    have n1 : ad_l (A k) (nt_L (A k).2 - 1) = 2 := ad_last ho hodd
    have n2 : ¬ ad_l (A k) (nt_L (A k).2 - 1 - s) = 2 := ad_none ho hodd (by omega)
    rw [fX4_address_b62, wr_rc hz, show nI (nt_L (A k).2) - 1 = nI (nt_L (A k).2 - 1) from pk_sub (b := 1) (by omega), ma_letter hm hk (by omega), Option.bind_some, wr_rc hz, pk_sub (by omega), ma_letter hm hk (by omega), Option.bind_some, nu_ite (nI_eq (ad_lt3 _ _) (ad_lt3 _ _)), if_neg (by rw [n1]; exact fun q => n2 q.symm), ad_nx]
    rfl
  | succ d ih =>
    intro f j h1 h2 h4
    obtain ⟨f, rfl⟩ : ∃ y, f = y + 1 := ⟨f - 1, by omega⟩
    rw [fX4_address_b62, wr_rc hz, show nI j - 1 = nI (j - 1) from pk_sub (b := 1) (by omega), ma_letter hm hk (by omega), Option.bind_some, wr_rc hz, pk_sub (by omega), ma_letter hm hk (by omega), Option.bind_some, nu_ite (nI_eq (ad_lt3 _ _) (ad_lt3 _ _)), ad_nx, show nI j + 1 = nI (j + 1) from nI_1 j]
    by_cases c : ad_l (A k) (j - 1) = ad_l (A k) (j - 1 - s)
    · rw [if_pos c, if_pos c]
      exact ih f (j + 1) (by omega) (by omega) (by omega)
    · rw [if_neg c, if_neg c]
      rfl
theorem ma_addr (hm : ws_M z w n A S pl ps pg) {k : Nat} (hk : k < n) (hodd : (A k).2 % 2 = 1) {I : Nat} (hI : I < 2 ^ 31) : ∀ (d f i s : Nat), i + d = I → 1 ≤ s → s ≤ nt_L (A k).2 → d < f → fX4_address_b41 w f (z + 4) (nI k) (nI I) (nI (nt_L (A k).2)) (nI s) (nI i) = some (ad_F (A k) d s) := by
  have ho := mt_ok hm hk
  obtain ⟨a1, a2, -⟩ := nt_Lspec ho.2.2
  intro d
  induction d with
  | zero =>
    intro f i s h1 h2 h5 h6
    obtain ⟨f, rfl⟩ : ∃ y, f = y + 1 := ⟨f - 1, by omega⟩
    have e : i = I := by omega
    subst e
    rw [fX4_address_b41, if_pos (nI_le (Nat.le_refl _) (by omega)), ad_F]
  | succ d ih =>
    intro f i s h1 h2 h5 h6
    obtain ⟨f, rfl⟩ : ∃ y, f = y + 1 := ⟨f - 1, by omega⟩
    rw [fX4_address_b41, if_neg (nI_ge (by omega) (by omega)), nu_ite (nI_eq (by omega) (by omega)), ad_F]
    by_cases c : s = nt_L (A k).2
    · rw [if_pos c, if_pos c]
    · have hb := ad_nxb (A k) s (nt_L (A k).2 - s - 1) (s + 1)
      rw [if_neg c, if_neg c, show nI s + 1 = nI (s + 1) from nI_1 s, ma_next hm _ hk hodd _ _ _ h2 (nt_L (A k).2 - s - 1) mg_N (s + 1) (by omega) (by omega) (by unfold mg_N; omega), show nI i + 1 = nI (i + 1) from nI_1 i]
      exact ih f (i + 1) _ (by omega) (by omega) (by omega) (by omega)
theorem ja_write (hc : ws_C z w sz n A S tL tG tU pa) {k a : Nat} (h2 : w a = some (ws_turn (A k))) (ha : a ≠ z + 3) (ho : ws_ok (A k)) : ∃ w2 g2, fX3_writeInner z a w = some ((), w2) ∧ w2 (z + 3) = some (.inr (0, 512, .inl g2)) ∧ (∀ x, x ≠ z + 3 → w2 x = w x) ∧ ∀ i, i < nt_L (A k).2 → g2 i = nI (ad_l (A k) i) := by
  obtain ⟨⟨fs, h0, hfs⟩, g, h3⟩ := ct_gR hc
  obtain ⟨w2, g2, e1, e2, e3, e4⟩ := ca_write (z := z) hfs (a := a) (q := A k) ha ho (nt_L (A k).2) mg_N 0 w g h0 h3 h2 (by omega) (by have := (nt_Lspec ho.2.2).2.1; unfold mg_N; omega) (fun i hi => by omega)
  refine ⟨w2, g2, ?_, e2, e3, e4⟩
  unfold fX3_writeInner
  rw [(tu_g h2).1, Option.bind_some]
  rw [Nat.pow_zero, Nat.mul_one, Nat.mod_eq_of_lt ho.1, nI_0] at e1
  exact e1
theorem ja_class {fs : List Value} {a : Nat} {q : Nat × Nat} {g : Nat → Int32} (hfs : fs[2]? = some (.ref (z + 3))) (ho : ws_ok q) (h0 : w z = some (.inl (3, fs))) (h3 : w (z + 3) = some (.inr (0, 512, .inl g))) (h2 : w a = some (ws_turn q)) (e4 : ∀ i, i < nt_L q.2 → g i = nI (ad_l q i)) {I : Nat} (hI : I < 2 ^ 31) : fX3_address_b37 mg_N z (nI I) a 1 0 w = some (ad_F q I 1, w) := by
  have hh := ca_addr (z := z) (w := w) (a := a) hfs ho h0 h3 h2 e4 hI I mg_N 0 1 (by omega) (by omega) (nt_Lspec ho.2.2).1 (by unfold mg_N; omega)
  rw [nI_0, show nI 1 = (1 : Int32) from rfl] at hh
  exact hh
theorem ja_model (hm2 : ws_M z w n A S pl ps pg) {k I : Nat} (hk : k < n) (hodd : (A k).2 % 2 = 1) (hI : I < 2 ^ 31) (c2 : (0 : Int32) ≤ nI I) : fX4_address (z + 4) (nI k) (nI I) w = some (ad_F (A k) I 1) := by
  have ho := mt_ok hm2 hk
  obtain ⟨_, hz42⟩ := mt_z hm2
  obtain ⟨g1, g2', g3, g4, g5⟩ := mt_at hm2 hk
  unfold fX4_address
  rw [wr_rc hz42, g1, Option.bind_some, if_neg (by decide), if_pos c2, wr_rc hz42, mt_back hm2 hk, Option.bind_some, nu_sel, if_pos hodd, g3, g5, Option.bind_some, st_len ho.2.2, Option.bind_some]
  have hh := ma_addr hm2 hk hodd hI I mg_N 0 1 (by omega) (by omega) (nt_Lspec ho.2.2).1 (by unfold mg_N; omega)
  rw [nI_0, show nI 1 = (1 : Int32) from rfl] at hh
  exact hh
theorem j_address (hc : ws_C z w sz n A S tL tG tU pa) (hm : ws_M z w n A S pl ps pg) (x1 x2 : Int32) : ∃ r w1, fX3_address z x1 x2 w = some (r, w1) ∧ fX4_address (z + 4) x1 x2 w1 = some r ∧ ws_C z w1 sz n A S tL tG tU pa ∧ ws_M z w1 n A S pl ps pg := by
  obtain ⟨_, hz⟩ := ct_z hc
  obtain ⟨_, hz4⟩ := mt_z hm
  have hn := ct_n hc
  unfold fX3_address
  rw [wr_rc hz]
  rcases nu_ix x1 (n := n) (by omega) with hx | ⟨k, hk, rfl⟩
  · refine ⟨-1, w, by rw [ct_bad hc hx, Option.bind_some, mg_if0], ?_, hc, hm⟩
    unfold fX4_address
    rw [wr_rc hz4, mt_bad hm hx, Option.bind_some, if_pos rfl]
  · obtain ⟨a, h1, h14, h2⟩ := ct_at hc hk
    have ho := ct_ok hc hk
    rw [h1, Option.bind_some]
    simp only [mg_if0]
    by_cases c2 : (0 : Int32) ≤ x2
    · rw [if_pos c2, tu_rc h2, tu_back h2 ho, Option.bind_some, nu_sel]
      by_cases hodd : (A k).2 % 2 = 1
      · rw [if_pos hodd, wr_rc hz]
        obtain ⟨w2, g2, e1, e2, e3, e4⟩ := ja_write hc h2 (by omega) ho
        obtain ⟨⟨fs, h0, hfs⟩, g, h3⟩ := ct_gR hc
        obtain ⟨hc2, hf2⟩ := ct_row hc e2 e3
        have hm2 := ws_Mkeep hf2 hm
        obtain ⟨I, hI, rfl⟩ := nI_of (x := x2) (fun q => by rw [Int32.le_iff_toInt_le] at c2; rw [Int32.lt_iff_toInt_lt] at q; omega)
        refine ⟨ad_F (A k) I 1, w2, ?_, ja_model hm2 hk hodd hI c2, hc2, hm2⟩
        rw [e1]
        unfold mg_bS
        rw [Option.bind_some]
        exact ja_class hfs ho (by rw [e3 _ (by omega)]; exact h0) e2 (by rw [e3 _ (by omega)]; exact h2) e4 hI
      · rw [if_neg hodd]
        refine ⟨-2, w, rfl, ?_, hc, hm⟩
        unfold fX4_address
        rw [wr_rc hz4, (mt_at hm hk).1, Option.bind_some, if_neg (by decide), if_pos c2, wr_rc hz4, mt_back hm hk, Option.bind_some, nu_sel, if_neg hodd]
    · rw [if_neg c2]
      refine ⟨-1, w, rfl, ?_, hc, hm⟩
      unfold fX4_address
      rw [wr_rc hz4, (mt_at hm hk).1, Option.bind_some, if_neg (by decide), if_neg c2]
end AD
