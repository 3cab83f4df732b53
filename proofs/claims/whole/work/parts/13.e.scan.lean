/-! scan -/
theorem an_cases (n : Nat) (A : ws_A) (a b : Int64) : an_F n A a b = (-1, n, A) ∨ an_F n A a b = (-3, n, A) ∨ ∃ A2, (an_F n A a b = (nI n, n + 1, A2)) := by
  unfold an_F
  split
  · split
    · exact Or.inr (Or.inl rfl)
    · exact Or.inr (Or.inr ⟨_, rfl⟩)
  · exact Or.inl rfl
def sc_F (m : Nat) (c : Nat → Int64) (f : Int) (n0 : Nat) : Nat → Nat → Nat → ws_A → Int32 × Nat × ws_A
  | 0, _, n, A => (nI n, n, A)
  | d + 1, i, n, A => if f + 2 * (i : Int) < 0 ∨ (m : Int) < f + 2 * (i : Int) + 2 then (-12, n0, A) else if 0 ≤ (an_F n A (c (f + 2 * (i : Int)).toNat) (c ((f + 2 * (i : Int)).toNat + 1))).1 then sc_F m c f n0 d (i + 1) (an_F n A (c (f + 2 * (i : Int)).toNat) (c ((f + 2 * (i : Int)).toNat + 1))).2.1 (an_F n A (c (f + 2 * (i : Int)).toNat) (c ((f + 2 * (i : Int)).toNat + 1))).2.2 else (-20 + (an_F n A (c (f + 2 * (i : Int)).toNat) (c ((f + 2 * (i : Int)).toNat + 1))).1, n0, A)
theorem nu_pos {x : Int32} {i : Nat} (hi : i ≤ 16) : (x.toInt64 + 2 * (nI i).toInt64).toInt = x.toInt + 2 * (i : Int) := by
  have h1 := Int32.toInt_lt x
  have h2 := Int32.le_toInt x
  rw [nI_l (by omega), nu_2L, Int64.toInt_add, Int32.toInt_toInt64, pk_lT (by omega), Int.bmod_eq_of_le (by omega) (by omega)]
  omega
theorem nu_posM {x : Int32} {i : Nat} (hi : i ≤ 16) : (x.toInt64 + ((2 : Int32) * nI i).toInt64) = x.toInt64 + 2 * (nI i).toInt64 := by
  rw [nu_2, nI_l (by omega), nI_l (by omega), nu_2L]
theorem nu_addL {x : Int64} {k : Nat} (hk : k ≤ 2) (h1 : -2 ^ 40 ≤ x.toInt) (h2 : x.toInt ≤ 2 ^ 40) : (x + lN k).toInt = x.toInt + k := by
  rw [Int64.toInt_add, pk_lT (by omega), Int.bmod_eq_of_le (by omega) (by omega)]
section SC
variable {z sz n : Nat} {w : mg_H} {A : ws_A} {S : ws_S} {tL tG tU pl : Nat → Int32} {ps pg : Nat → Int64} {pa : Option Nat}
theorem ct_lt (hc : ws_C z w sz n A S tL tG tU pa) {a : Nat} {e : mg_E} (h : w a = some e) : a < sz := by
  obtain ⟨fT, fS, fR, h0, h1, h2, h3, hn, hs, hz, -⟩ := hc
  rcases Nat.lt_or_ge a sz with q | q
  · exact q
  · rw [hz a q] at h; cases h
theorem ct_read (hc : ws_C z w sz n A S tL tG tU pa) {a5 c5 m : Nat} {v : Value} {fc c : Nat → Int64} (h1 : w a5 = some (.inl (1, [v, .ref c5]))) (h2 : w c5 = some (.inr (2, m, .inr (.inl fc)))) (hm : m ≤ 60) (hcs : ∀ i, i < m → fc i = c i) {x : Int64} (hx1 : -2 ^ 40 ≤ x.toInt) (hx2 : x.toInt ≤ 2 ^ 40) :
    (¬ (0 ≤ x.toInt ∧ x.toInt + 2 ≤ m) → fX3_readAngle z a5 x w sz = some (-12, w, 0, 0)) ∧ ((0 ≤ x.toInt ∧ x.toInt + 2 ≤ m) → ∃ w2 kc ks, fX3_readAngle z a5 x w sz = some ((if 0 ≤ (an_F n A (c x.toInt.toNat) (c (x.toInt.toNat + 1))).1 then (an_F n A (c x.toInt.toNat) (c (x.toInt.toNat + 1))).1 else -20 + (an_F n A (c x.toInt.toNat) (c (x.toInt.toNat + 1))).1), w2, kc, ks) ∧ ws_C z w2 (sz + kc) (an_F n A (c x.toInt.toNat) (c (x.toInt.toNat + 1))).2.1 (an_F n A (c x.toInt.toNat) (c (x.toInt.toNat + 1))).2.2 S tL tG tU pa ∧ ws_Fc z w w2 ∧ ws_Old z sz w w2 ∧ kc ≤ 1 ∧ ks ≤ 4) := by
  obtain ⟨_, hz⟩ := ct_z hc
  have hp1 : (x + 1).toInt = x.toInt + 1 := nu_addL (k := 1) (by omega) hx1 hx2
  unfold fX3_readAngle
  simp only [wr_rc h1, st_hasCell h1 h2 hm, Option.bind_some, nu_sel, hp1]
  constructor
  · intro hb
    by_cases c1 : 0 ≤ x.toInt ∧ x.toInt < m
    · rw [if_pos c1, if_neg (by omega)]
    · rw [if_neg c1]
  · intro hg
    obtain ⟨q, hq⟩ : ∃ q, x.toInt.toNat = q := ⟨_, rfl⟩
    have hxq : x = lN q := by rw [← hq]; exact nu_Lof hg.1
    have hqi : x.toInt = (q : Int) := by omega
    rw [if_pos (by omega), if_pos (by omega), hq]
    rw [hqi] at hg
    obtain ⟨w2, kc, ks, e1, hc2, hf, ho, k1, k2⟩ := ct_angle hc (c q) (c (q + 1))
    have ex : x.toInt32 = nI q := by rw [hxq, nu_i2n]
    rw [ex, wr_gN h1 rfl, wr_ldL h2 (by omega) (by omega), Option.bind_some, wr_gN h1 rfl, show nI q + 1 = nI (q + 1) from nI_1 q, wr_ldL h2 (by omega) (by omega), Option.bind_some, wr_rc hz, hcs q (by omega), hcs (q + 1) (by omega), e1]
    refine ⟨w2, kc, ks, ?_, hc2, hf, ho, k1, k2⟩
    simp only [mg_bA, Option.bind_some]
    split <;> simp [mg_bmp]
theorem ct_scanL {a5 c5 m n0 M : Nat} {v : Value} {fc c : Nat → Int64} (x3 : Int32) (hm : m ≤ 60) (hM : M ≤ 16) (ha5 : z + 14 ≤ a5) (hc5 : z + 14 ≤ c5) (hcs : ∀ i, i < m → fc i = c i) : ∀ (d f i sz n : Nat) (w : mg_H) (A : ws_A), ws_C z w sz n A S tL tG tU pa → w a5 = some (.inl (1, [v, .ref c5])) → w c5 = some (.inr (2, m, .inr (.inl fc))) → n0 ≤ n → i + d = M → d < f → ∃ w2 kc ks, fX3_scan_b65 f z x3 (nI M) a5 (nI n0) (nI i) w sz = some ((sc_F m c x3.toInt n0 d i n A).1, w2, kc, ks) ∧ ws_C z w2 (sz + kc) (sc_F m c x3.toInt n0 d i n A).2.1 (sc_F m c x3.toInt n0 d i n A).2.2 S tL tG tU pa ∧ ws_Fc z w w2 ∧ kc ≤ d ∧ ks ≤ 4 * d := by
  intro d
  induction d with
  | zero =>
    intro f i sz n w A hc h1 h2 hn h3 h4
    obtain ⟨f, rfl⟩ : ∃ y, f = y + 1 := ⟨f - 1, by omega⟩
    have e : i = M := by omega
    subst e
    rw [fX3_scan_b65, if_pos (nI_le (Nat.le_refl _) (by omega)), ct_gn hc]
    exact ⟨w, 0, 0, rfl, hc, fun _ _ _ => rfl, by omega, by omega⟩
  | succ d ih =>
    intro f i sz n w A hc h1 h2 hn h3 h4
    obtain ⟨f, rfl⟩ : ∃ y, f = y + 1 := ⟨f - 1, by omega⟩
    obtain ⟨_, hz⟩ := ct_z hc
    have hp := nu_pos (x := x3) (i := i) (by omega)
    have g1 := Int32.toInt_lt x3
    have g2 := Int32.le_toInt x3
    rw [fX3_scan_b65, if_neg (nI_ge (by omega) (by omega)), wr_rc hz, sc_F]
    generalize x3.toInt64 + 2 * (nI i).toInt64 = x at *
    obtain ⟨rb, rg⟩ := ct_read hc h1 h2 hm hcs (x := x) (by omega) (by omega)
    by_cases c1 : x3.toInt + 2 * (i : Int) < 0 ∨ (m : Int) < x3.toInt + 2 * (i : Int) + 2
    · rw [rb (by omega)]
      simp only [if_pos c1]
      obtain ⟨w2, e2, hc2, hf2, -⟩ := ct_setn hc (m := n0) (A2 := A) hn (fun _ _ => rfl)
      refine ⟨w2, 0, 0, ?_, hc2, hf2, by omega, by omega⟩
      simp only [mg_bA, Option.bind_some, mg_bmp, if_neg (show ¬ (0 : Int32) ≤ -12 by decide), e2]
      rfl
    · obtain ⟨w2, kc, ks, e2, hc2, hf2, ho2, k1, k2⟩ := rg (by omega)
      rw [e2]
      simp only [if_neg c1]
      rw [← hp] at *
      generalize ha : an_F n A (c x.toInt.toNat) (c (x.toInt.toNat + 1)) = r at *
      have hla := ct_lt hc h1
      have hlc := ct_lt hc h2
      simp only [mg_bA, Option.bind_some]
      rcases an_cases n A (c x.toInt.toNat) (c (x.toInt.toNat + 1)) with q | q | ⟨A2, q⟩
      · rw [ha] at q
        subst q
        obtain ⟨w3, e3, hc3, hf3, -⟩ := ct_setn hc2 (m := n0) (A2 := A) hn (fun _ _ => rfl)
        refine ⟨w3, kc, ks, ?_, hc3, fun x q1 q2 => by rw [hf3 x q1 q2, hf2 x q1 q2], by omega, by omega⟩
        simp only [mg_bmp, if_neg (show ¬ (0 : Int32) ≤ -1 by decide), if_neg (show ¬ (0 : Int32) ≤ -20 + -1 by decide), e3]
        rfl
      · rw [ha] at q
        subst q
        obtain ⟨w3, e3, hc3, hf3, -⟩ := ct_setn hc2 (m := n0) (A2 := A) hn (fun _ _ => rfl)
        refine ⟨w3, kc, ks, ?_, hc3, fun x q1 q2 => by rw [hf3 x q1 q2, hf2 x q1 q2], by omega, by omega⟩
        simp only [mg_bmp, if_neg (show ¬ (0 : Int32) ≤ -3 by decide), if_neg (show ¬ (0 : Int32) ≤ -20 + -3 by decide), e3]
        rfl
      · rw [ha] at q
        subst q
        have hn16 := ct_n hc
        have hpos : (0 : Int32) ≤ nI n := nI_pos' (by omega)
        obtain ⟨w3, kc3, ks3, e3, hc3, hf3, k3, k4⟩ := ih f (i + 1) (sz + kc) (n + 1) w2 A2 hc2 (by rw [ho2 _ ha5 hla]; exact h1) (by rw [ho2 _ hc5 hlc]; exact h2) (by omega) (by omega) (by omega)
        simp only [if_pos hpos, show nI i + 1 = nI (i + 1) from nI_1 i]
        refine ⟨w3, kc + kc3, ks + ks3, ?_, by rw [← Nat.add_assoc]; exact hc3, fun x q1 q2 => by rw [hf3 x q1 q2, hf2 x q1 q2], by omega, by omega⟩
        rw [e3]
        rfl
theorem mt_scanE (hm : ws_M z w n A S pl ps pg) {n0 : Nat} (hn : n0 ≤ n) {r : Int32} (hr : ¬ 0 ≤ r) : ∃ w2, fX4_scan_b173 (z + 4) (nI n0) r w = some (r, w2) ∧ ws_M z w2 n0 A S pl ps pg ∧ ws_Fm z w w2 := by
  obtain ⟨w2, e2, hm2, hf2, -⟩ := mt_setn hm (m := n0) (A2 := A) hn (fun _ _ => rfl)
  refine ⟨w2, ?_, hm2, hf2⟩
  unfold fX4_scan_b173
  rw [if_neg hr]
  unfold fX4_scan_b188
  rw [e2, Option.bind_some, if_neg hr]
theorem mt_scanX {k : Nat} (x3 x4 : Int32) (hm : ws_M z w n A S pl ps pg) {n0 : Nat} (hn : n0 ≤ n) {r : Int32} (hr : ¬ 0 ≤ r) (f : Nat) (x7 : Int32) : ∃ w2, fX4_scan_b64 (f + 1) (z + 4) (nI k) x3 x4 (nI n0) r x7 w = some (r, w2) ∧ ws_M z w2 n0 A S pl ps pg ∧ ws_Fm z w w2 := by
  rw [fX4_scan_b64]
  have : ¬ r = 0 := fun q => hr (by rw [q]; decide)
  by_cases c : x4 ≤ x7
  · rw [if_pos c]; exact mt_scanE hm hn hr
  · rw [if_neg c, if_neg this]; exact mt_scanE hm hn hr
theorem mt_scanL {k m n0 M ln : Nat} {c : Nat → Int64} (x3 : Int32) (hk : k < 4) (hM : M ≤ 16) (hSk : S k = some (ln, m, c)) : ∀ (d f i n : Nat) (w : mg_H) (A : ws_A), ws_M z w n A S pl ps pg → n0 ≤ n → i + d = M → d + 1 < f → ∃ w2, fX4_scan_b64 f (z + 4) (nI k) x3 (nI M) (nI n0) 0 (nI i) w = some ((sc_F m c x3.toInt n0 d i n A).1, w2) ∧ ws_M z w2 (sc_F m c x3.toInt n0 d i n A).2.1 (sc_F m c x3.toInt n0 d i n A).2.2 S pl ps pg ∧ ws_Fm z w w2 := by
  intro d
  induction d with
  | zero =>
    intro f i n w A hm hn h3 h4
    obtain ⟨f, rfl⟩ : ∃ y, f = y + 1 := ⟨f - 1, by omega⟩
    have e : i = M := by omega
    subst e
    obtain ⟨w2, e2, hm2, hf2, g2⟩ := mt_setn hm (m := n) (A2 := A) (Nat.le_refl _) (fun _ _ => rfl)
    refine ⟨w2, ?_, hm2, hf2⟩
    rw [fX4_scan_b64, if_pos (nI_le (Nat.le_refl _) (by omega))]
    unfold fX4_scan_b173
    rw [if_pos (by decide), mt_gn hm, Option.bind_some]
    unfold fX4_scan_b188
    rw [e2, Option.bind_some, if_pos (by decide), g2]
    rfl
  | succ d ih =>
    intro f i n w A hm hn h3 h4
    obtain ⟨f, rfl⟩ : ∃ y, f = y + 2 := ⟨f - 2, by omega⟩
    obtain ⟨_, hz⟩ := mt_z hm
    have hp := nu_pos (x := x3) (i := i) (by omega)
    have g1 := Int32.toInt_lt x3
    have g2 := Int32.le_toInt x3
    have hmm := hm
    obtain ⟨ft, fd, fh, fl, fs, fc, gl, gs, gg, h4', h5, h6, h7, h8, h9, h10, h11, h12, h13, hn16, hA, hS, hT⟩ := hmm
    have hs := hS k hk
    rw [hSk] at hs
    obtain ⟨a1, a2, a3, a4, a5⟩ := hs
    rw [fX4_scan_b64, if_neg (nI_ge (by omega) (by omega)), if_pos rfl, sc_F, nu_posM (by omega)]
    simp only [lg_cmp_lt, lg_cmp_le]
    generalize x3.toInt64 + 2 * (nI i).toInt64 = x at *
    have hp2 : (x + 2).toInt = x.toInt + 2 := nu_addL (k := 2) (by omega) (by omega) (by omega)
    rw [← hp]
    by_cases c0 : x.toInt < 0
    · rw [if_pos (by rw [Int64.lt_iff_toInt_lt]; exact c0), if_pos (Or.inl c0)]
      exact mt_scanX x3 (nI M) hm hn (by decide) f _
    · rw [if_neg (by rw [Int64.lt_iff_toInt_lt]; exact c0), wr_gN h4' rfl, wr_ldI h12 hk (by omega), Option.bind_some, a2]
      simp only [Int64.le_iff_toInt_le, hp2, Int32.toInt_toInt64, nI_toInt (show m < 2 ^ 31 by have : m ≤ 60 := a4; omega)]
      by_cases c1 : x.toInt + 2 ≤ m
      · rw [if_pos c1, if_neg (show ¬ (x.toInt < 0 ∨ (m : Int) < x.toInt + 2) by omega)]
        obtain ⟨q, hq⟩ : ∃ q, x.toInt.toNat = q := ⟨_, rfl⟩
        have hxq : x = lN q := by rw [← hq]; exact nu_Lof (by omega)
        have hm6 : m ≤ 60 := a4
        have hqm : q + 2 ≤ m := by omega
        have ex : x.toInt32 = nI q := by rw [hxq, nu_i2n]
        rw [hq, ex, wr_gN h4' rfl, show (60 : Int32) * nI k + nI q = nI (60 * k + q) by rw [show (60 : Int32) * nI k = nI (60 * k) from pk_mul 60 k, nI_add], wr_ldL h13 (by omega) (by omega), Option.bind_some, wr_gN h4' rfl, show nI (60 * k + q) + 1 = nI (60 * k + (q + 1)) from nI_1 _, wr_ldL h13 (by omega) (by omega), Option.bind_some, wr_rc hz, a5 q (by show q < m; omega), a5 (q + 1) (by show q + 1 < m; omega)]
        show ∃ w2, mg_bS (fX4_angle (z + 4) (c q) (c (q + 1)) w) _ = _ ∧ _
        obtain ⟨w2, e2, hm2, hf2⟩ := mt_angle hm (c q) (c (q + 1))
        rw [e2]
        simp only [mg_bS, Option.bind_some]
        rcases an_cases n A (c q) (c (q + 1)) with u | u | ⟨A2, u⟩
        · rw [u] at hm2 ⊢
          simp only [if_neg (show ¬ (0 : Int32) ≤ -1 by decide)]
          obtain ⟨w3, e3, hm3, hf3⟩ := mt_scanX (k := k) x3 (nI M) hm2 hn (r := -20 + -1) (by decide) f (nI i + 1)
          exact ⟨w3, e3, hm3, fun x q => by rw [hf3 x q, hf2 x q]⟩
        · rw [u] at hm2 ⊢
          simp only [if_neg (show ¬ (0 : Int32) ≤ -3 by decide)]
          obtain ⟨w3, e3, hm3, hf3⟩ := mt_scanX (k := k) x3 (nI M) hm2 hn (r := -20 + -3) (by decide) f (nI i + 1)
          exact ⟨w3, e3, hm3, fun x q => by rw [hf3 x q, hf2 x q]⟩
        · rw [u] at hm2 ⊢
          have hpos : (0 : Int32) ≤ nI n := nI_pos' (by omega)
          simp only [if_pos hpos]
          obtain ⟨w3, e3, hm3, hf3⟩ := ih (f + 1) (i + 1) (n + 1) w2 A2 hm2 (by omega) (by omega) (by omega)
          rw [← nI_1 i] at e3
          exact ⟨w3, e3, hm3, fun x q => by rw [hf3 x q, hf2 x q]⟩
      · rw [if_neg c1, if_pos (show x.toInt < 0 ∨ (m : Int) < x.toInt + 2 by omega)]
        exact mt_scanX x3 (nI M) hm hn (by decide) f _
theorem j_scan (hc : ws_C z w sz n A S tL tG tU pa) (hm : ws_M z w n A S pl ps pg) (x1 x2 x3 x4 : Int32) : ∃ r w1 kc ks w2 n2 A2, fX3_scan z x1 x2 x3 x4 w sz = some (r, w1, kc, ks) ∧ fX4_scan (z + 4) x1 x2 x3 x4 w1 = some (r, w2) ∧ ws_C z w2 (sz + kc) n2 A2 S tL tG tU pa ∧ ws_M z w2 n2 A2 S pl ps pg ∧ kc ≤ 32 ∧ ks ≤ 2000 := by
  have bad : ∀ r, fX3_scan z x1 x2 x3 x4 w sz = some (r, w, 0, 0) → fX4_scan (z + 4) x1 x2 x3 x4 w = some (r, w) → ∃ r w1 kc ks w2 n2 A2, fX3_scan z x1 x2 x3 x4 w sz = some (r, w1, kc, ks) ∧ fX4_scan (z + 4) x1 x2 x3 x4 w1 = some (r, w2) ∧ ws_C z w2 (sz + kc) n2 A2 S tL tG tU pa ∧ ws_M z w2 n2 A2 S pl ps pg ∧ kc ≤ 32 ∧ ks ≤ 2000 := fun r e1 e2 => ⟨r, w, 0, 0, w, n, A, e1, e2, hc, hm, by omega, by omega⟩
  have hmm := hm
  obtain ⟨ft, fd, fh, fl, fs, fc, gl, gs, gg, h4, h5, h6, h7, h8, h9, h10, h11, h12, h13, hn16, hA, hS, hT⟩ := hmm
  rcases nu_ixS x1 with c | ⟨k, hk, rfl⟩
  · refine bad (-1) ?_ ?_
    · unfold fX3_scan
      rw [st_isSheet, Option.bind_some, nu_sel, if_neg c]
    · unfold fX4_scan
      rw [st_isSheetM, Option.bind_some, nu_sel, if_neg (fun q => c q.1)]
  · have ek : 0 ≤ (nI k).toInt ∧ (nI k).toInt ≤ 3 := by rw [nI_toInt (by omega)]; omega
    by_cases c2 : 0 ≤ x2.toInt ∧ x2.toInt ≤ 1
    · by_cases c4 : 0 ≤ x4.toInt ∧ x4.toInt ≤ 16
      · obtain ⟨r, s1, s2, s3⟩ := ct_sh hc hk
        have hs := hS k hk
        obtain ⟨ln2, -, hl2, rfl⟩ := nu_rg (a := 0) (b := 1) (by omega) c2
        obtain ⟨M, -, hM, rfl⟩ := nu_rg (a := 0) (b := 16) (by omega) c4
        have hv3 : fX3_scan z (nI k) (nI ln2) x3 (nI M) w sz = mg_if0 r (some (-11, w, 0, 0)) fun a5 => (mg_gI w 1 a5 0).bind fun v6 => if v6 = nI ln2 then ((mg_gI w 3 z 3).bind fun v7 => fX3_scan_b65 mg_N z x3 (nI M) a5 v7 (0 : Int32) w sz) else (some ((-13 : Int32), w, 0, 0)) := by
          unfold fX3_scan
          rw [st_isSheet, Option.bind_some, nu_sel, if_pos ek, st_isLane, Option.bind_some, nu_sel, if_pos c2, if_neg (nI_pos (by omega)), if_pos (by exact nI_le (b := 16) hM (by omega)), s1, s2, Option.bind_some]
        have hv4 : ∀ w1, ws_Fc z w w1 → fX4_scan (z + 4) (nI k) (nI ln2) x3 (nI M) w1 = if fl k = nI ln2 then ((mg_gI w1 4 (z + 4) 0).bind fun v5 => fX4_scan_b64 mg_N (z + 4) (nI k) x3 (nI M) v5 (0 : Int32) (0 : Int32) w1) else if fl k = -4 then some (-11, w1) else some (-13, w1) := by
          intro w1 hf
          unfold fX4_scan
          rw [st_isSheetM, Option.bind_some, nu_sel, if_pos ⟨ek, c2⟩, st_inI (a := 0) (b := 16) rfl rfl, Option.bind_some, nu_sel, if_pos c4, wr_gN (by rw [hf _ (by omega) (by omega)]; exact h4) rfl, wr_ldI (by rw [hf _ (by omega) (by omega)]; exact h11) hk (by omega), Option.bind_some, wr_gN (by rw [hf _ (by omega) (by omega)]; exact h4) rfl, wr_ldI (by rw [hf _ (by omega) (by omega)]; exact h11) hk (by omega), Option.bind_some]
        have hln : ∀ a : Nat, a ≤ 1 → ¬ nI a = -4 := fun a ha q => by
          have := congrArg Int32.toInt q
          rw [nI_toInt (by omega)] at this
          have e : (-4 : Int32).toInt = -4 := rfl
          omega
        cases hSj : S k with
        | none =>
          rw [hSj] at hs s3
          have hs : fl k = -4 := hs
          have s3 : r = none := s3
          subst s3
          refine bad (-11) (by rw [hv3]; rfl) ?_
          rw [hv4 w (fun _ _ _ => rfl), hs, if_neg (fun q => hln ln2 hl2 q.symm), if_pos rfl]
        | some y =>
          rw [hSj] at hs s3
          obtain ⟨a1, a2, a3, a4, a5⟩ := hs
          obtain ⟨a, c', f, e1, e2, e3, e4, e5, e6, e7, e8⟩ := s3
          subst e1
          by_cases d : y.1 = ln2
          · obtain ⟨w1, kc, ks, f1, hc1, hf1, k1, k2⟩ := ct_scanL (M := M) (m := y.2.1) (n0 := n) (c := y.2.2) x3 e7 hM e2 e3 e8 M mg_N 0 sz n w A hc e4 e5 (Nat.le_refl _) (by omega) (by unfold mg_N; omega)
            obtain ⟨w2, f2, hm2, hf2⟩ := mt_scanL (M := M) (k := k) (m := y.2.1) (n0 := n) (ln := y.1) (c := y.2.2) x3 hk hM hSj M mg_N 0 n w1 A (ws_Mkeep hf1 hm) (Nat.le_refl _) (by omega) (by unfold mg_N; omega)
            refine ⟨(sc_F y.2.1 y.2.2 x3.toInt n M 0 n A).1, w1, kc, ks, w2, _, _, ?_, ?_, ws_Ckeep hf2 hc1, hm2, by omega, by omega⟩
            · rw [hv3]
              simp only [mg_if0]
              rw [wr_gI e4 rfl, Option.bind_some, if_pos (by rw [d]), ct_gn hc, Option.bind_some]
              exact f1
            · rw [hv4 w1 hf1, a1, if_pos (by rw [d]), mt_gn (ws_Mkeep hf1 hm), Option.bind_some]
              exact f2
          · have hne : ¬ nI y.1 = nI ln2 := fun q => d ((nI_eq (by omega) (by omega)).mp q)
            refine bad (-13) ?_ ?_
            · rw [hv3]
              simp only [mg_if0]
              rw [wr_gI e4 rfl, Option.bind_some, if_neg hne]
            · rw [hv4 w (fun _ _ _ => rfl), a1, if_neg hne, if_neg (hln _ a3)]
      · refine bad (-1) ?_ ?_
        · unfold fX3_scan
          rw [st_isSheet, Option.bind_some, nu_sel, if_pos ek, st_isLane, Option.bind_some, nu_sel, if_pos c2]
          simp only [Int32.lt_iff_toInt_lt, Int32.le_iff_toInt_le, show (0 : Int32).toInt = 0 from rfl, show (16 : Int32).toInt = 16 from rfl]
          by_cases d : x4.toInt < 0
          · rw [if_pos d]
          · rw [if_neg d, if_neg (by omega)]
        · unfold fX4_scan
          rw [st_isSheetM, Option.bind_some, nu_sel, if_pos ⟨ek, c2⟩, st_inI (a := 0) (b := 16) rfl rfl, Option.bind_some, nu_sel, if_neg c4]
    · refine bad (-1) ?_ ?_
      · unfold fX3_scan
        rw [st_isSheet, Option.bind_some, nu_sel, if_pos ek, st_isLane, Option.bind_some, nu_sel, if_neg c2]
      · unfold fX4_scan
        rw [st_isSheetM, Option.bind_some, nu_sel, if_neg (fun q => c2 q.2)]
end SC
