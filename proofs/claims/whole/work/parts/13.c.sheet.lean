/-! SHEETS -/
def ws_uS (S : ws_S) (k : Nat) (x : Option (Nat × Nat × (Nat → Int64))) : ws_S := fun j => if j = k then x else S j
theorem st_isSheetM (x y : Int32) : fX4_isSheet x y = some (if (0 ≤ x.toInt ∧ x.toInt ≤ 3) ∧ (0 ≤ y.toInt ∧ y.toInt ≤ 1) then 1 else 0) := by
  unfold fX4_isSheet
  rw [st_inI (a := 0) (b := 3) rfl rfl, Option.bind_some, nu_sel, st_inI (a := 0) (b := 1) rfl rfl, Option.bind_some, nu_sel]
  by_cases c : 0 ≤ x.toInt ∧ x.toInt ≤ 3
  · rw [if_pos c]
    by_cases d : 0 ≤ y.toInt ∧ y.toInt ≤ 1
    · rw [if_pos d, if_pos ⟨c, d⟩]
    · rw [if_neg d, if_neg (fun q => d q.2)]
  · rw [if_neg c, if_neg (fun q => c q.1)]
section SH
variable {z sz n : Nat} {w : mg_H} {A : ws_A} {S : ws_S} {tL tG tU pl : Nat → Int32} {ps pg : Nat → Int64} {pa : Option Nat}
theorem ct_sheet (hc : ws_C z w sz n A S tL tG tU pa) {k ln m : Nat} (hk : k < 4) (hl : ln ≤ 1) (hm : m ≤ 60) : ∃ w2, fX3_sheet z (nI k) (nI ln) (nI m) w sz = some (1, w2, 2, 2 + m) ∧ ws_C z w2 (sz + 2) n A (ws_uS S k (some (ln, m, fun _ => 0))) tL tG tU pa ∧ ws_Fc z w w2 := by
  obtain ⟨fT, fS, fR, h0, h1, h2, h3, hn, hs, hz, hA, hS, hd, hp⟩ := hc
  have lt : ∀ a e, w a = some e → a < sz := fun a e h => by
    rcases Nat.lt_or_ge a sz with q | q
    · exact q
    · rw [hz a q] at h; cases h
  unfold fX3_sheet
  rw [st_isSheet, Option.bind_some, nu_sel, if_pos (by rw [nI_toInt (by omega)]; omega), st_isLane, Option.bind_some, nu_sel, if_pos (by rw [nI_toInt (by omega)]; omega), if_pos (by exact nI_le (b := 60) hm (by omega)), if_pos (nI_pos' (by omega)), wr_gN h0 rfl]
  unfold mg_nw
  generalize hW1 : mg_set w sz _ = W1
  have g1 : W1 sz = some (.inl (1, [.int 0, .null])) := by rw [← hW1, wr_set]
  have o1 : ∀ x, x ≠ sz → W1 x = w x := fun x hx => by rw [← hW1, wr_ne hx]
  dsimp only
  unfold fX1_init
  rw [wr_pI g1 (by simp), Option.bind_some]
  generalize hW2 : mg_set W1 sz _ = W2
  have g2 : W2 sz = some (.inl (1, [.int (nI ln), .null])) := by rw [← hW2, wr_set]; rfl
  have o2 : ∀ x, x ≠ sz → W2 x = w x := fun x hx => by rw [← hW2, wr_ne hx, o1 x hx]
  unfold mg_naL
  rw [if_neg (show ¬ nI m < 0 from nI_pos (by omega)), nI_clamp (by omega), if_neg (show ¬ (nI m < 0 ∨ 67108864 < m) from fun q => q.elim (nI_pos (by omega)) (by omega))]
  generalize hW3 : mg_set W2 (sz + 1) _ = W3
  have g3 : W3 sz = some (.inl (1, [.int (nI ln), .null])) := by rw [← hW3, wr_ne (by omega), g2]
  dsimp only
  rw [wr_pQ g3 (by simp), Option.bind_some]
  generalize hW4 : mg_set W3 sz _ = W4
  have g4 : W4 sz = some (.inl (1, [.int (nI ln), .ref (sz + 1)])) := by rw [← hW4, wr_set]; rfl
  have g5 : W4 (sz + 1) = some (.inr (2, m, .inr (.inl (fun _ => 0)))) := by rw [← hW4, wr_ne (by omega), ← hW3, wr_set]
  have o4 : ∀ x, x ≠ sz → x ≠ sz + 1 → W4 x = w x := fun x q1 q2 => by rw [← hW4, wr_ne q1, ← hW3, wr_ne q2, o2 x q1]
  simp only [mg_bA, mg_bmp, Option.map_some, Option.bind_some]
  rw [wr_stQ ((o4 (z + 2) (by omega) (by omega)).trans h2) g4 hk (by omega), Option.bind_some]
  generalize hW5 : mg_set W4 (z + 2) _ = W5
  have k2 : W5 (z + 2) = some (.inr (4, 4, .inr (.inr (.inr (.inr (va_up fS k (some sz))))))) := by rw [← hW5, wr_set]
  have k3 : W5 sz = some (.inl (1, [.int (nI ln), .ref (sz + 1)])) := by rw [← hW5, wr_ne (by omega), g4]
  have k4 : W5 (sz + 1) = some (.inr (2, m, .inr (.inl (fun _ => 0)))) := by rw [← hW5, wr_ne (by omega), g5]
  have k5 : ∀ x, x ≠ z + 2 → x ≠ sz → x ≠ sz + 1 → W5 x = w x := fun x q1 q2 q3 => by rw [← hW5, wr_ne q1, o4 x q2 q3]
  refine ⟨W5, by simp, ?_, fun x q1 q2 => k5 x (by omega) (by omega) (by omega)⟩
  have hkk : ∀ x, z + 14 ≤ x → (∃ e, w x = some e) → W5 x = w x := fun x q1 ⟨e, q2⟩ => k5 x (by omega) (by have := lt x e q2; omega) (by have := lt x e q2; omega)
  obtain ⟨r1, r2, r3⟩ := ws_rest hkk hS hd hp
  refine ⟨fT, va_up fS k (some sz), fR, by rw [k5 _ (by omega) (by omega) (by omega)]; exact h0, by rw [k5 _ (by omega) (by omega) (by omega)]; exact h1, k2, by rw [k5 _ (by omega) (by omega) (by omega)]; exact h3, hn, by omega, fun x q => by rw [k5 x (by omega) (by omega) (by omega)]; exact hz x (by omega), fun j q => ?_, fun j q => ?_, fun i j c hi hj e1 e2 => ?_, r3⟩
  · obtain ⟨b1, x, b2, b3, b4⟩ := hA j q
    exact ⟨b1, x, b2, b3, by rw [hkk x b3 ⟨_, b4⟩]; exact b4⟩
  · by_cases d : j = k
    · subst d
      rw [show ws_uS S j (some (ln, m, fun _ => 0)) j = some (ln, m, fun _ => 0) by simp [ws_uS], show va_up fS j (some sz) j = some sz by simp [va_up]]
      exact ⟨sz, sz + 1, fun _ => 0, rfl, by omega, by omega, k3, k4, hl, hm, fun _ _ => rfl⟩
    · rw [show ws_uS S k (some (ln, m, fun _ => 0)) j = S j by simp [ws_uS, d], show va_up fS k (some sz) j = fS j by simp [va_up, d]]
      exact r1 j q
  · have old : ∀ j, j < 4 → j ≠ k → ws_cell W5 (va_up fS k (some sz) j) c → ws_cell W5 (fS j) c ∧ c < sz := by
      intro j hj d q
      rw [show va_up fS k (some sz) j = fS j by simp [va_up, d]] at q
      refine ⟨q, ?_⟩
      have := hS j hj
      cases hSk : S j with
      | none => rw [hSk] at this; rw [show fS j = none from this] at q; obtain ⟨a, v, e1, -⟩ := q; cases e1
      | some y =>
        rw [hSk] at this
        obtain ⟨a', c', f, g1, g2, g3, g4, g5, -⟩ := this
        obtain ⟨a, v, e1, e2⟩ := q
        cases g1.symm.trans e1
        rw [hkk _ g2 ⟨_, g4⟩, g4] at e2
        cases e2
        exact lt _ _ g5
    have new : ws_cell W5 (va_up fS k (some sz) k) c → c = sz + 1 := by
      intro q
      rw [show va_up fS k (some sz) k = some sz by simp [va_up]] at q
      obtain ⟨a, v, e1, e2⟩ := q
      cases e1
      rw [k3] at e2
      cases e2
      rfl
    by_cases di : i = k
    · by_cases dj : j = k
      · omega
      · subst di
        have := new e1
        have := (old j hj dj e2).2
        omega
    · by_cases dj : j = k
      · subst dj
        have := new e2
        have := (old i hi di e1).2
        omega
      · exact r2 i j c hi hj (old i hi di e1).1 (old j hj dj e2).1
theorem mt_sheetL {k : Nat} (hk : k < 4) {fs4 : List Value} (hfs : fs4[10]? = some (.ref (z + 13))) : ∀ (d f i : Nat) (w : mg_H) (fc : Nat → Int64), w (z + 4) = some (.inl (4, fs4)) → w (z + 13) = some (.inr (2, 240, .inr (.inl fc))) → i + d = 60 → d < f → ∃ w2 fc2, fX4_sheet_b40 f (z + 4) (nI k) (nI i) w = some (1, w2) ∧ w2 (z + 13) = some (.inr (2, 240, .inr (.inl fc2))) ∧ (∀ x, x ≠ z + 13 → w2 x = w x) ∧ (∀ j, i ≤ j → j < 60 → fc2 (60 * k + j) = 0) ∧ ∀ x, ¬ (60 * k + i ≤ x ∧ x < 60 * k + 60) → fc2 x = fc x := by
  intro d
  induction d with
  | zero =>
    intro f i w fc h4 h13 h1 h2
    obtain ⟨f, rfl⟩ : ∃ y, f = y + 1 := ⟨f - 1, by omega⟩
    have e : i = 60 := by omega
    subst e
    rw [fX4_sheet_b40, if_pos (by decide)]
    exact ⟨w, fc, rfl, h13, fun _ _ => rfl, fun j q1 q2 => by omega, fun _ _ => rfl⟩
  | succ d ih =>
    intro f i w fc h4 h13 h1 h2
    obtain ⟨f, rfl⟩ : ∃ y, f = y + 1 := ⟨f - 1, by omega⟩
    rw [fX4_sheet_b40, if_neg (by exact nI_ge (b := 60) (by omega) (by omega)), wr_gN h4 hfs, show (60 : Int32) * nI k + nI i = nI (60 * k + i) by rw [show (60 : Int32) * nI k = nI (60 * k) from pk_mul 60 k, nI_add], wr_stL h13 (by omega) (by omega), Option.bind_some, show nI i + 1 = nI (i + 1) from nI_1 i]
    obtain ⟨w2, fc2, e1, e2, e3, e4, e5⟩ := ih f (i + 1) (mg_set w (z + 13) (.inr (2, 240, .inr (.inl (vp_updL fc (60 * k + i) 0))))) (vp_updL fc (60 * k + i) 0) (by rw [wr_ne (by omega)]; exact h4) (wr_set _ _ _) (by omega) (by omega)
    refine ⟨w2, fc2, e1, e2, fun x hx => by rw [e3 x hx, wr_ne hx], fun j q1 q2 => ?_, fun x q => ?_⟩
    · by_cases c : j = i
      · subst c
        rw [e5 _ (by omega)]
        simp [vp_updL]
      · exact e4 j (by omega) q2
    · rw [e5 x (by omega)]
      have : x ≠ 60 * k + i := by omega
      simp [vp_updL, this]
theorem mt_sheet (hm : ws_M z w n A S pl ps pg) {k ln m : Nat} (hk : k < 4) (hl : ln ≤ 1) (hm6 : m ≤ 60) : ∃ w2, fX4_sheet (z + 4) (nI k) (nI ln) (nI m) w = some (1, w2) ∧ ws_M z w2 n A (ws_uS S k (some (ln, m, fun _ => 0))) pl ps pg ∧ ws_Fm z w w2 := by
  obtain ⟨ft, fd, fh, fl, fs, fc, gl, gs, gg, h4, h5, h6, h7, h8, h9, h10, h11, h12, h13, hn, hA, hS, hT⟩ := hm
  unfold fX4_sheet
  rw [st_isSheetM, Option.bind_some, nu_sel, if_pos (by rw [nI_toInt (by omega), nI_toInt (by omega)]; omega), if_pos (by exact nI_le (b := 60) hm6 (by omega)), if_pos (nI_pos' (by omega)), wr_gN h4 rfl, wr_stI h11 hk (by omega), Option.bind_some]
  generalize hW1 : mg_set w (z + 11) _ = W1
  have o1 : ∀ x, x ≠ z + 11 → W1 x = w x := fun x hx => by rw [← hW1, wr_ne hx]
  rw [wr_gN ((o1 _ (by omega)).trans h4) rfl, wr_stI ((o1 _ (by omega)).trans h12) hk (by omega), Option.bind_some]
  generalize hW2 : mg_set W1 (z + 12) _ = W2
  have o2 : ∀ x, x ≠ z + 11 → x ≠ z + 12 → W2 x = w x := fun x hx hy => by rw [← hW2, wr_ne hy, o1 x hx]
  obtain ⟨w2, fc2, e1, e2, e3, e4, e5⟩ := mt_sheetL (z := z) hk (fs4 := [.int (nI n), .ref (z + 5), .ref (z + 6), .int (nI 236), .ref (z + 7), .ref (z + 8), .ref (z + 9), .ref (z + 10), .ref (z + 11), .ref (z + 12), .ref (z + 13)]) rfl 60 mg_N 0 W2 fc ((o2 _ (by omega) (by omega)).trans h4) ((o2 _ (by omega) (by omega)).trans h13) (by omega) (by unfold mg_N; omega)
  have o3 : ∀ x, x ≠ z + 11 → x ≠ z + 12 → x ≠ z + 13 → w2 x = w x := fun x q1 q2 q3 => by rw [e3 x q3, o2 x q1 q2]
  refine ⟨w2, e1, ?_, fun x q => o3 x (by omega) (by omega) (by omega)⟩
  refine ⟨ft, fd, fh, upd fl k (nI ln), upd fs k (nI m), fc2, gl, gs, gg, by rw [o3 _ (by omega) (by omega) (by omega)]; exact h4, by rw [o3 _ (by omega) (by omega) (by omega)]; exact h5, by rw [o3 _ (by omega) (by omega) (by omega)]; exact h6, by rw [o3 _ (by omega) (by omega) (by omega)]; exact h7, by rw [o3 _ (by omega) (by omega) (by omega)]; exact h8, by rw [o3 _ (by omega) (by omega) (by omega)]; exact h9, by rw [o3 _ (by omega) (by omega) (by omega)]; exact h10, by rw [e3 _ (by omega), ← hW2, wr_ne (by omega), ← hW1, wr_set], by rw [e3 _ (by omega), ← hW2, wr_set], e2, hn, hA, fun j q => ?_, hT⟩
  by_cases d : j = k
  · subst d
    rw [show ws_uS S j (some (ln, m, fun _ => 0)) j = some (ln, m, fun _ => 0) by simp [ws_uS]]
    exact ⟨by simp [upd], by simp [upd], hl, hm6, fun i hi => e4 i (by omega) (by have : i < m := hi; omega)⟩
  · rw [show ws_uS S k (some (ln, m, fun _ => 0)) j = S j by simp [ws_uS, d]]
    have := hS j q
    cases hSj : S j with
    | none =>
      rw [hSj] at this
      simp only [upd, if_neg d]
      exact this
    | some y =>
      rw [hSj] at this
      obtain ⟨a1, a2, a3, a4, a5⟩ := this
      refine ⟨by simp only [upd, if_neg d]; exact a1, by simp only [upd, if_neg d]; exact a2, a3, a4, fun i hi => ?_⟩
      rw [e5 _ (by omega)]
      exact a5 i hi
theorem j_sheet (hc : ws_C z w sz n A S tL tG tU pa) (hm : ws_M z w n A S pl ps pg) (x1 x2 x3 : Int32) : ∃ r w1 kc ks w2 S2, fX3_sheet z x1 x2 x3 w sz = some (r, w1, kc, ks) ∧ fX4_sheet (z + 4) x1 x2 x3 w1 = some (r, w2) ∧ ws_C z w2 (sz + kc) n A S2 tL tG tU pa ∧ ws_M z w2 n A S2 pl ps pg ∧ kc ≤ 32 ∧ ks ≤ 2000 := by
  by_cases c : (0 ≤ x1.toInt ∧ x1.toInt ≤ 3) ∧ (0 ≤ x2.toInt ∧ x2.toInt ≤ 1) ∧ (0 ≤ x3.toInt ∧ x3.toInt ≤ 60)
  · obtain ⟨c1, c2, c3⟩ := c
    obtain ⟨k, -, hk, rfl⟩ := nu_rg (a := 0) (b := 3) (by omega) c1
    obtain ⟨ln, -, hl, rfl⟩ := nu_rg (a := 0) (b := 1) (by omega) c2
    obtain ⟨m, -, hm6, rfl⟩ := nu_rg (a := 0) (b := 60) (by omega) c3
    obtain ⟨w1, e1, hc1, hf1⟩ := ct_sheet hc (k := k) (by omega) hl hm6
    obtain ⟨w2, e2, hm2, hf2⟩ := mt_sheet (ws_Mkeep hf1 hm) (k := k) (by omega) hl hm6
    exact ⟨_, w1, _, _, w2, _, e1, e2, ws_Ckeep hf2 hc1, hm2, by omega, by omega⟩
  · unfold fX3_sheet fX4_sheet
    rw [st_isSheet, st_isLane, st_isSheetM]
    simp only [Option.bind_some, nu_sel, Int32.le_iff_toInt_le, show (60 : Int32).toInt = 60 from rfl, show (0 : Int32).toInt = 0 from rfl]
    by_cases c1 : 0 ≤ x1.toInt ∧ x1.toInt ≤ 3
    · by_cases c2 : 0 ≤ x2.toInt ∧ x2.toInt ≤ 1
      · rw [if_pos c1, if_pos c2]
        simp only [if_pos (show (0 ≤ x1.toInt ∧ x1.toInt ≤ 3) ∧ (0 ≤ x2.toInt ∧ x2.toInt ≤ 1) from ⟨c1, c2⟩)]
        by_cases c3 : x3.toInt ≤ 60
        · rw [if_pos c3, if_neg (show ¬ 0 ≤ x3.toInt by omega)]
          simp only [if_pos c3, if_neg (show ¬ 0 ≤ x3.toInt by omega)]
          exact ⟨_, w, 0, 0, w, S, rfl, rfl, hc, hm, by omega, by omega⟩
        · rw [if_neg c3]
          simp only [if_neg c3]
          exact ⟨_, w, 0, 0, w, S, rfl, rfl, hc, hm, by omega, by omega⟩
      · rw [if_pos c1, if_neg c2]
        simp only [if_neg (show ¬ ((0 ≤ x1.toInt ∧ x1.toInt ≤ 3) ∧ (0 ≤ x2.toInt ∧ x2.toInt ≤ 1)) from fun q => c2 q.2)]
        exact ⟨_, w, 0, 0, w, S, rfl, rfl, hc, hm, by omega, by omega⟩
    · rw [if_neg c1]
      simp only [if_neg (show ¬ ((0 ≤ x1.toInt ∧ x1.toInt ≤ 3) ∧ (0 ≤ x2.toInt ∧ x2.toInt ≤ 1)) from fun q => c1 q.1)]
      exact ⟨_, w, 0, 0, w, S, rfl, rfl, hc, hm, by omega, by omega⟩
end SH
