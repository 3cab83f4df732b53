theorem nu_ixS (x : Int32) : ¬ (0 ≤ x.toInt ∧ x.toInt ≤ 3) ∨ ∃ k : Nat, k < 4 ∧ x = nI k := by
  by_cases c : 0 ≤ x.toInt ∧ x.toInt ≤ 3
  · obtain ⟨k, -, hk, rfl⟩ := nu_rg (a := 0) (b := 3) (by omega) c
    exact Or.inr ⟨k, by omega, rfl⟩
  · exact Or.inl c
section LY
variable {z sz n : Nat} {w : mg_H} {A : ws_A} {S : ws_S} {tL tG tU pl : Nat → Int32} {ps pg : Nat → Int64} {pa : Option Nat}
/-- the SHEET k of the class -/
theorem ct_sh (hc : ws_C z w sz n A S tL tG tU pa) {k : Nat} (hk : k < 4) : ∃ r, (∀ {ρ : Type} (K : Nat → Option ρ), mg_gN w 3 z 1 K = K (z + 2)) ∧ mg_ldQ w 4 (z + 2) (nI k) = some r ∧ ws_sheet w z r (S k) := by
  obtain ⟨fT, fS, fR, h0, h1, h2, h3, hn, hs, hz, hA, hS, hd, hp⟩ := hc
  exact ⟨fS k, fun K => wr_gN h0 rfl, wr_ldQ h2 hk (by omega), hS k hk⟩
theorem st_hasCell {a c m : Nat} {v : Value} {f : Nat → Int64} (h1 : w a = some (.inl (1, [v, .ref c]))) (h2 : w c = some (.inr (2, m, .inr (.inl f)))) (hm : m ≤ 60) (x : Int64) : fX1_hasCell a x w = some (if 0 ≤ x.toInt ∧ x.toInt < m then 1 else 0) := by
  unfold fX1_hasCell
  rw [wr_gN h1 rfl, wr_len h2 (by omega), Option.bind_some]
  simp only [lg_cmp_lt, lg_cmp_ge, Int64.lt_iff_toInt_lt, Int64.le_iff_toInt_le, Int32.toInt_toInt64, nI_toInt (show m < 2 ^ 31 by omega), show (0 : Int64).toInt = 0 from rfl]
  by_cases c1 : x.toInt < 0
  · rw [if_pos c1, if_neg (by omega)]
  · rw [if_neg c1]
    by_cases c2 : (m : Int) ≤ x.toInt
    · rw [if_pos c2, if_neg (by omega)]
    · rw [if_neg c2, if_pos (by omega)]
def ly_v (ln : Nat) (v : Int64) : Int64 := if ln = 0 then v.toInt32.toInt64 else v
theorem ct_lay (hc : ws_C z w sz n A S tL tG tU pa) {k : Nat} (hk : k < 4) {y : Nat × Nat × (Nat → Int64)} (hy : S k = some y) {i : Nat} (hi : i < y.2.1) (v : Int64) : ∃ w2, fX3_lay z (nI k) (nI i) v w = some (1, w2) ∧ ws_C z w2 sz n A (ws_uS S k (some (y.1, y.2.1, vp_updL y.2.2 i (ly_v y.1 v)))) tL tG tU pa ∧ ws_Fc z w w2 := by
  obtain ⟨r, s1, s2, s3⟩ := ct_sh hc hk
  obtain ⟨fT, fS, fR, h0, h1, h2, h3, hn, hs, hz, hA, hS, hd, hp⟩ := hc
  have hr : r = fS k := Option.some.inj (s2.symm.trans (wr_ldQ h2 hk (by omega)))
  rw [hy] at s3
  obtain ⟨a, c, f, e1, e2, e3, e4, e5, e6, e7, e8⟩ := s3
  subst e1
  unfold fX3_lay
  rw [st_isSheet, Option.bind_some, nu_sel, if_pos (by rw [nI_toInt (by omega)]; omega), s1, s2, Option.bind_some]
  simp only [mg_if0]
  rw [wr_rc e4, st_hasCell e4 e5 e7, Option.bind_some, nu_sel, if_pos (by rw [Int32.toInt_toInt64, nI_toInt (by omega)]; omega), wr_gN e4 rfl, wr_gI e4 rfl, Option.bind_some]
  have hv : (if nI y.1 = 0 then (mg_stL w c (nI i) v.toInt32.toInt64).bind fun w8 => some ((1 : Int32), w8) else (mg_stL w c (nI i) v).bind fun w9 => some ((1 : Int32), w9)) = some (1, mg_set w c (.inr (2, y.2.1, .inr (.inl (vp_updL f i (ly_v y.1 v)))))) := by
    by_cases q : y.1 = 0
    · rw [if_pos (by rw [q]; rfl), wr_stL e5 hi (by omega), ly_v, if_pos q]; rfl
    · rw [if_neg (nI_ne0 (by omega) (by omega)), wr_stL e5 hi (by omega), ly_v, if_neg q]; rfl
  rw [hv]
  generalize hW : mg_set w c _ = W
  have o : ∀ x, x ≠ c → W x = w x := fun x hx => by rw [← hW, wr_ne hx]
  refine ⟨W, rfl, ?_, fun x q1 q2 => o x (by omega)⟩
  have hcl : c < sz := by
    rcases Nat.lt_or_ge c sz with q | q
    · exact q
    · rw [hz c q] at e5; cases e5
  have ob : ∀ x o', w x = some (.inl o') → W x = w x := fun x o' q => o x (fun u => by rw [u, e5] at q; cases q)
  have ai : ∀ x m g, w x = some (.inr (0, m, .inl g)) → W x = w x := fun x m g q => o x (fun u => by rw [u, e5] at q; cases q)
  refine ⟨fT, fS, fR, by rw [o _ (by omega)]; exact h0, by rw [o _ (by omega)]; exact h1, by rw [o _ (by omega)]; exact h2, by rw [o _ (by omega)]; exact h3, hn, hs, fun x q => by rw [o x (by omega)]; exact hz x q, fun j q => ?_, fun j q => ?_, fun i2 j c2 hi2 hj g1 g2 => ?_, fun p hp2 => ?_⟩
  · obtain ⟨b1, x, b2, b3, b4⟩ := hA j q
    exact ⟨b1, x, b2, b3, by rw [ob x _ b4]; exact b4⟩
  · by_cases d : j = k
    · subst d
      rw [show ws_uS S j (some (y.1, y.2.1, vp_updL y.2.2 i (ly_v y.1 v))) j = some (y.1, y.2.1, vp_updL y.2.2 i (ly_v y.1 v)) by simp [ws_uS], ← hr]
      refine ⟨a, c, _, rfl, e2, e3, by rw [ob a _ e4]; exact e4, by rw [← hW, wr_set], e6, e7, fun t ht => ?_⟩
      show vp_updL f i (ly_v y.1 v) t = vp_updL y.2.2 i (ly_v y.1 v) t
      unfold vp_updL
      by_cases u : t = i
      · rw [if_pos u, if_pos u]
      · rw [if_neg u, if_neg u]; exact e8 t ht
    · rw [show ws_uS S k (some (y.1, y.2.1, vp_updL y.2.2 i (ly_v y.1 v))) j = S j by simp [ws_uS, d]]
      have := hS j q
      cases hSj : S j with
      | none => rw [hSj] at this; exact this
      | some t =>
        rw [hSj] at this
        obtain ⟨a', c', f', b1, b2, b3, b4, b5, b6⟩ := this
        have hne : c' ≠ c := fun u => d (hd j k c q hk ⟨a', _, b1, by rw [← u]; exact b4⟩ ⟨a, _, hr.symm, e4⟩)
        exact ⟨a', c', f', b1, b2, b3, by rw [ob a' _ b4]; exact b4, by rw [o c' hne]; exact b5, b6⟩
  · have back : ∀ k, k < 4 → ws_cell W (fS k) c2 → ws_cell w (fS k) c2 := by
      intro k hk4 ⟨a, v, e1, e2⟩
      have := hS k hk4
      cases hSk : S k with
      | none => rw [hSk] at this; rw [show fS k = none from this] at e1; cases e1
      | some y =>
        rw [hSk] at this
        obtain ⟨a', c', f, g1, g2, g3, g4, -⟩ := this
        cases g1.symm.trans e1
        rw [ob _ _ g4] at e2
        exact ⟨a, v, e1, e2⟩
    exact hd i2 j c2 hi2 hj (back i2 hi2 g1) (back j hj g2)
  · obtain ⟨b1, b2, ⟨g, b3, b4⟩, ⟨g2, b5, b6⟩, g3, b7, b8⟩ := hp p hp2
    exact ⟨b1, by rw [ob _ _ b2]; exact b2, ⟨g, by rw [ai _ _ _ b3]; exact b3, b4⟩, ⟨g2, by rw [ai _ _ _ b5]; exact b5, b6⟩, g3, by rw [ai _ _ _ b7]; exact b7, b8⟩
theorem mt_sz {m : Nat} (hm : m ≤ 60) : (nI m - 1).toInt64.toInt = (m : Int) - 1 := by
  rw [Int32.toInt_toInt64]
  exact pk_sub_toInt (b := 1) (by omega) (by omega)
theorem mt_lay (hm : ws_M z w n A S pl ps pg) {k : Nat} (hk : k < 4) {y : Nat × Nat × (Nat → Int64)} (hy : S k = some y) {i : Nat} (hi : i < y.2.1) (v : Int64) : ∃ w2, fX4_lay (z + 4) (nI k) (nI i) v w = some (1, w2) ∧ ws_M z w2 n A (ws_uS S k (some (y.1, y.2.1, vp_updL y.2.2 i (ly_v y.1 v)))) pl ps pg ∧ ws_Fm z w w2 := by
  obtain ⟨ft, fd, fh, fl, fs, fc, gl, gs, gg, h4, h5, h6, h7, h8, h9, h10, h11, h12, h13, hn, hA, hS, hT⟩ := hm
  have hSk := hS k hk
  rw [hy] at hSk
  obtain ⟨a1, a2, a3, a4, a5⟩ := hSk
  have hne4 : ¬ nI y.1 = -4 := fun q => by
    have := congrArg Int32.toInt q
    rw [nI_toInt (by omega)] at this
    have e : (-4 : Int32).toInt = -4 := rfl
    omega
  unfold fX4_lay
  rw [st_isSheetM, Option.bind_some, nu_sel, if_pos (by rw [nI_toInt (by omega)]; exact ⟨by omega, by decide⟩), wr_gN h4 rfl, wr_ldI h11 hk (by omega), Option.bind_some, a1, if_neg hne4, wr_gN h4 rfl, wr_ldI h12 hk (by omega), Option.bind_some, a2, st_inI (a := 0) rfl (mt_sz a4), Option.bind_some, nu_sel, if_pos (by rw [nI_toInt (by omega)]; omega), wr_gN h4 rfl, wr_gN h4 rfl, wr_ldI h11 hk (by omega), Option.bind_some, a1, show (60 : Int32) * nI k + nI i = nI (60 * k + i) by rw [show (60 : Int32) * nI k = nI (60 * k) from pk_mul 60 k, nI_add]]
  have hv : (if nI y.1 = 0 then (mg_stL w (z + 13) (nI (60 * k + i)) v.toInt32.toInt64).bind fun w8 => some ((1 : Int32), w8) else (mg_stL w (z + 13) (nI (60 * k + i)) v).bind fun w9 => some ((1 : Int32), w9)) = some (1, mg_set w (z + 13) (.inr (2, 240, .inr (.inl (vp_updL fc (60 * k + i) (ly_v y.1 v)))))) := by
    by_cases q : y.1 = 0
    · rw [if_pos (by rw [q]; rfl), wr_stL h13 (by omega) (by omega), ly_v, if_pos q]; rfl
    · rw [if_neg (nI_ne0 (by omega) (by omega)), wr_stL h13 (by omega) (by omega), ly_v, if_neg q]; rfl
  rw [hv]
  refine ⟨_, rfl, ?_, fun x q => wr_ne (by omega)⟩
  refine ⟨ft, fd, fh, fl, fs, _, gl, gs, gg, by rw [wr_ne (by omega)]; exact h4, by rw [wr_ne (by omega)]; exact h5, by rw [wr_ne (by omega)]; exact h6, by rw [wr_ne (by omega)]; exact h7, by rw [wr_ne (by omega)]; exact h8, by rw [wr_ne (by omega)]; exact h9, by rw [wr_ne (by omega)]; exact h10, by rw [wr_ne (by omega)]; exact h11, by rw [wr_ne (by omega)]; exact h12, wr_set _ _ _, hn, hA, fun j q => ?_, hT⟩
  by_cases d : j = k
  · subst d
    rw [show ws_uS S j (some (y.1, y.2.1, vp_updL y.2.2 i (ly_v y.1 v))) j = some (y.1, y.2.1, vp_updL y.2.2 i (ly_v y.1 v)) by simp [ws_uS]]
    refine ⟨a1, a2, a3, a4, fun t ht => ?_⟩
    show vp_updL fc (60 * j + i) (ly_v y.1 v) (60 * j + t) = vp_updL y.2.2 i (ly_v y.1 v) t
    unfold vp_updL
    by_cases u : t = i
    · rw [if_pos u, if_pos (by rw [u])]
    · rw [if_neg u, if_neg (by omega)]; exact a5 t ht
  · rw [show ws_uS S k (some (y.1, y.2.1, vp_updL y.2.2 i (ly_v y.1 v))) j = S j by simp [ws_uS, d]]
    have := hS j q
    cases hSj : S j with
    | none => rw [hSj] at this; exact this
    | some t =>
      rw [hSj] at this
      obtain ⟨b1, b2, b3, b4, b5⟩ := this
      refine ⟨b1, b2, b3, b4, fun u hu => ?_⟩
      have : 60 * j + u ≠ 60 * k + i := by omega
      rw [show vp_updL fc (60 * k + i) (ly_v y.1 v) (60 * j + u) = fc (60 * j + u) by simp [vp_updL, this]]
      exact b5 u hu
theorem j_lay (hc : ws_C z w sz n A S tL tG tU pa) (hm : ws_M z w n A S pl ps pg) (x1 x2 : Int32) (v : Int64) : ∃ r w1 w2 S2, fX3_lay z x1 x2 v w = some (r, w1) ∧ fX4_lay (z + 4) x1 x2 v w1 = some (r, w2) ∧ ws_C z w2 sz n A S2 tL tG tU pa ∧ ws_M z w2 n A S2 pl ps pg := by
  rcases nu_ixS x1 with c | ⟨k, hk, rfl⟩
  · refine ⟨-1, w, w, S, ?_, ?_, hc, hm⟩
    · unfold fX3_lay
      rw [st_isSheet, Option.bind_some, nu_sel, if_neg c]
    · unfold fX4_lay
      rw [st_isSheetM, Option.bind_some, nu_sel, if_neg (fun q => c q.1)]
  · have hmm := hm
    obtain ⟨ft, fd, fh, fl, fs, fc, gl, gs, gg, h4, h5, h6, h7, h8, h9, h10, h11, h12, h13, hn, hA, hS, hT⟩ := hmm
    have hSk := hS k hk
    obtain ⟨r, s1, s2, s3⟩ := ct_sh hc hk
    cases hSj : S k with
    | none =>
      rw [hSj] at hSk s3
      have hSk : fl k = -4 := hSk
      have s3 : r = none := s3
      subst s3
      refine ⟨-11, w, w, S, ?_, ?_, hc, hm⟩
      · unfold fX3_lay
        rw [st_isSheet, Option.bind_some, nu_sel, if_pos (by rw [nI_toInt (by omega)]; omega), s1, s2, Option.bind_some]
        rfl
      · unfold fX4_lay
        rw [st_isSheetM, Option.bind_some, nu_sel, if_pos (by rw [nI_toInt (by omega)]; exact ⟨by omega, by decide⟩), wr_gN h4 rfl, wr_ldI h11 hk (by omega), Option.bind_some, hSk, if_pos rfl]
    | some y =>
      by_cases c : 0 ≤ x2.toInt ∧ x2.toInt ≤ (y.2.1 : Int) - 1
      · obtain ⟨i, hi, rfl⟩ : ∃ i, i < y.2.1 ∧ x2 = nI i := by
          have hy6 : y.2.1 ≤ 60 := by rw [hSj] at hSk; exact hSk.2.2.2.1
          obtain ⟨i, -, hi, rfl⟩ := nu_rg (x := x2) (a := 0) (b := y.2.1 - 1) (by omega) (by omega)
          exact ⟨i, by omega, rfl⟩
        obtain ⟨w1, e1, hc1, hf1⟩ := ct_lay hc hk hSj hi v
        obtain ⟨w2, e2, hm2, hf2⟩ := mt_lay (ws_Mkeep hf1 hm) hk hSj hi v
        exact ⟨_, w1, w2, _, e1, e2, ws_Ckeep hf2 hc1, hm2⟩
      · rw [hSj] at hSk s3
        obtain ⟨a1, a2, a3, a4, a5⟩ := hSk
        obtain ⟨a, c', f, e1, e2, e3, e4, e5, e6, e7, e8⟩ := s3
        subst e1
        have hne4 : ¬ nI y.1 = -4 := fun q => by
          have := congrArg Int32.toInt q
          rw [nI_toInt (by omega)] at this
          have e : (-4 : Int32).toInt = -4 := rfl
          omega
        refine ⟨-12, w, w, S, ?_, ?_, hc, hm⟩
        · unfold fX3_lay
          rw [st_isSheet, Option.bind_some, nu_sel, if_pos (by rw [nI_toInt (by omega)]; omega), s1, s2, Option.bind_some]
          simp only [mg_if0]
          rw [wr_rc e4, st_hasCell e4 e5 e7, Option.bind_some, nu_sel, if_neg (by rw [Int32.toInt_toInt64]; omega)]
        · unfold fX4_lay
          rw [st_isSheetM, Option.bind_some, nu_sel, if_pos (by rw [nI_toInt (by omega)]; exact ⟨by omega, by decide⟩), wr_gN h4 rfl, wr_ldI h11 hk (by omega), Option.bind_some, a1, if_neg hne4, wr_gN h4 rfl, wr_ldI h12 hk (by omega), Option.bind_some, a2, st_inI (a := 0) rfl (mt_sz a4), Option.bind_some, nu_sel, if_neg c]
end LY
