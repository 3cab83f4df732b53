/-! the calls that change both sides: the model stands when the class has answered -/
section IC
variable {z sz n : Nat} {w : mg_H} {A : ws_A} {S : ws_S} {tL tG tU pl : Nat → Int32} {ps pg : Nat → Int64} {pa : Option Nat}
theorem i_drop (hc : ws_C z w sz n A S tL tG tU pa) (hm : ws_M z w n A S pl ps pg) : ∃ r w1 w2 n2, fX3_drop z w = some (r, w1) ∧ fX4_drop (z + 4) w1 = some (r, w2) ∧ ws_C z w2 sz n2 A S tL tG tU pa ∧ ws_M z w2 n2 A S pl ps pg ∧ ∃ fs, w1 (z + 4) = some (.inl (4, fs)) := by
  have hn := ct_n hc
  unfold fX3_drop
  rw [ct_gn hc, Option.bind_some]
  by_cases c : n = 0
  · subst c
    rw [if_pos (by rfl)]
    refine ⟨_, _, _, 0, rfl, ?_, hc, hm, mt_z hm⟩
    unfold fX4_drop
    rw [mt_gn hm, Option.bind_some, if_pos (by rfl)]
  · have e : nI n - 1 = nI (n - 1) := pk_sub (b := 1) (by omega)
    rw [if_neg (nI_ne0 (by omega) (by omega)), Option.bind_some, e]
    obtain ⟨w1, e1, hc1, hf1, g1⟩ := ct_setn hc (m := n - 1) (A2 := A) (by omega) (fun _ _ => rfl)
    have hm1 := ws_Mkeep hf1 hm
    obtain ⟨w2, e2, hm2, hf2, g2⟩ := mt_setn hm1 (m := n - 1) (A2 := A) (by omega) (fun _ _ => rfl)
    rw [e1, Option.bind_some, g1, Option.bind_some]
    refine ⟨_, _, w2, n - 1, rfl, ?_, ws_Ckeep hf2 hc1, hm2, mt_z hm1⟩
    unfold fX4_drop
    rw [mt_gn hm1, Option.bind_some, if_neg (nI_ne0 (by omega) (by omega)), Option.bind_some, e, e2, Option.bind_some, g2, Option.bind_some]
theorem i_angle (hc : ws_C z w sz n A S tL tG tU pa) (hm : ws_M z w n A S pl ps pg) (a b : Int64) : ∃ r w1 kc ks w2 n2 A2, fX3_angle z a b w sz = some (r, w1, kc, ks) ∧ fX4_angle (z + 4) a b w1 = some (r, w2) ∧ ws_C z w2 (sz + kc) n2 A2 S tL tG tU pa ∧ ws_M z w2 n2 A2 S pl ps pg ∧ kc ≤ 32 ∧ ks ≤ 2000 ∧ ∃ fs, w1 (z + 4) = some (.inl (4, fs)) := by
  obtain ⟨w1, kc, ks, e1, hc1, hf1, -, k1, k2⟩ := ct_angle hc a b
  obtain ⟨w2, e2, hm2, hf2⟩ := mt_angle (ws_Mkeep hf1 hm) a b
  exact ⟨_, w1, kc, ks, w2, _, _, e1, e2, ws_Ckeep hf2 hc1, hm2, by omega, by omega, mt_z (ws_Mkeep hf1 hm)⟩
theorem i_sheet (hc : ws_C z w sz n A S tL tG tU pa) (hm : ws_M z w n A S pl ps pg) (x1 x2 x3 : Int32) : ∃ r w1 kc ks w2 S2, fX3_sheet z x1 x2 x3 w sz = some (r, w1, kc, ks) ∧ fX4_sheet (z + 4) x1 x2 x3 w1 = some (r, w2) ∧ ws_C z w2 (sz + kc) n A S2 tL tG tU pa ∧ ws_M z w2 n A S2 pl ps pg ∧ kc ≤ 32 ∧ ks ≤ 2000 ∧ ∃ fs, w1 (z + 4) = some (.inl (4, fs)) := by
  by_cases c : (0 ≤ x1.toInt ∧ x1.toInt ≤ 3) ∧ (0 ≤ x2.toInt ∧ x2.toInt ≤ 1) ∧ (0 ≤ x3.toInt ∧ x3.toInt ≤ 60)
  · obtain ⟨c1, c2, c3⟩ := c
    obtain ⟨k, -, hk, rfl⟩ := nu_rg (a := 0) (b := 3) (by omega) c1
    obtain ⟨ln, -, hl, rfl⟩ := nu_rg (a := 0) (b := 1) (by omega) c2
    obtain ⟨m, -, hm6, rfl⟩ := nu_rg (a := 0) (b := 60) (by omega) c3
    obtain ⟨w1, e1, hc1, hf1⟩ := ct_sheet hc (k := k) (by omega) hl hm6
    obtain ⟨w2, e2, hm2, hf2⟩ := mt_sheet (ws_Mkeep hf1 hm) (k := k) (by omega) hl hm6
    exact ⟨_, w1, _, _, w2, _, e1, e2, ws_Ckeep hf2 hc1, hm2, by omega, by omega, mt_z (ws_Mkeep hf1 hm)⟩
  · unfold fX3_sheet fX4_sheet
    rw [st_isSheet, st_isLane, st_isSheetM]
    simp only [Option.bind_some, nu_sel, Int32.le_iff_toInt_le, show (60 : Int32).toInt = 60 from rfl, show (0 : Int32).toInt = 0 from rfl]
    by_cases c1 : 0 ≤ x1.toInt ∧ x1.toInt ≤ 3
    · by_cases c2 : 0 ≤ x2.toInt ∧ x2.toInt ≤ 1
      · rw [if_pos c1, if_pos c2]
        simp only [if_pos (show (0 ≤ x1.toInt ∧ x1.toInt ≤ 3) ∧ (0 ≤ x2.toInt ∧ x2.toInt ≤ 1) from ⟨c1, c2⟩)]
        by_cases c3 : x3.toInt ≤ 60
        · rw [if_pos c3, if_neg (show ¬ 0 ≤ x3.toInt by omega)]
          simp only [if_pos c3, if_neg (show ¬ 0 ≤ x3.toInt by omega)]
          exact ⟨_, w, 0, 0, w, S, rfl, rfl, hc, hm, by omega, by omega, mt_z hm⟩
        · rw [if_neg c3]
          simp only [if_neg c3]
          exact ⟨_, w, 0, 0, w, S, rfl, rfl, hc, hm, by omega, by omega, mt_z hm⟩
      · rw [if_pos c1, if_neg c2]
        simp only [if_neg (show ¬ ((0 ≤ x1.toInt ∧ x1.toInt ≤ 3) ∧ (0 ≤ x2.toInt ∧ x2.toInt ≤ 1)) from fun q => c2 q.2)]
        exact ⟨_, w, 0, 0, w, S, rfl, rfl, hc, hm, by omega, by omega, mt_z hm⟩
    · rw [if_neg c1]
      simp only [if_neg (show ¬ ((0 ≤ x1.toInt ∧ x1.toInt ≤ 3) ∧ (0 ≤ x2.toInt ∧ x2.toInt ≤ 1)) from fun q => c1 q.1)]
      exact ⟨_, w, 0, 0, w, S, rfl, rfl, hc, hm, by omega, by omega, mt_z hm⟩
theorem i_lay (hc : ws_C z w sz n A S tL tG tU pa) (hm : ws_M z w n A S pl ps pg) (x1 x2 : Int32) (v : Int64) : ∃ r w1 w2 S2, fX3_lay z x1 x2 v w = some (r, w1) ∧ fX4_lay (z + 4) x1 x2 v w1 = some (r, w2) ∧ ws_C z w2 sz n A S2 tL tG tU pa ∧ ws_M z w2 n A S2 pl ps pg ∧ ∃ fs, w1 (z + 4) = some (.inl (4, fs)) := by
  rcases nu_ixS x1 with c | ⟨k, hk, rfl⟩
  · refine ⟨-1, w, w, S, ?_, ?_, hc, hm, mt_z hm⟩
    · unfold fX3_lay
      rw [st_isSheet, Option.bind_some, nu_sel, if_neg c]
    · unfold fX4_lay
      rw [st_isSheetM, Option.bind_some, nu_sel, if_neg (fun q => c q.1)]
  · have hmm := hm
    obtain ⟨ft, fd, fh, fl, fs, fc, gl, gs, gg, h4, h5, h6, h7, h8, h9, h10, h11, h12, h13, hn, hA, hS, hT⟩ := hmm
    have hSk := hS k hk
    obtain ⟨r, s1, s2, s3⟩ := ct_sh hc hk
    cases hSj : S k with
    | none =>
      rw [hSj] at hSk s3
      have hSk : fl k = -4 := hSk
      have s3 : r = none := s3
      subst s3
      refine ⟨-11, w, w, S, ?_, ?_, hc, hm, mt_z hm⟩
      · unfold fX3_lay
        rw [st_isSheet, Option.bind_some, nu_sel, if_pos (by rw [nI_toInt (by omega)]; omega), s1, s2, Option.bind_some]
        rfl
      · unfold fX4_lay
        rw [st_isSheetM, Option.bind_some, nu_sel, if_pos (by rw [nI_toInt (by omega)]; exact ⟨by omega, by decide⟩), wr_gN h4 rfl, wr_ldI h11 hk (by omega), Option.bind_some, hSk, if_pos rfl]
    | some y =>
      by_cases c : 0 ≤ x2.toInt ∧ x2.toInt ≤ (y.2.1 : Int) - 1
      · obtain ⟨i, hi, rfl⟩ : ∃ i, i < y.2.1 ∧ x2 = nI i := by
          have hy6 : y.2.1 ≤ 60 := by rw [hSj] at hSk; exact hSk.2.2.2.1
          obtain ⟨i, -, hi, rfl⟩ := nu_rg (x := x2) (a := 0) (b := y.2.1 - 1) (by omega) (by omega)
          exact ⟨i, by omega, rfl⟩
        obtain ⟨w1, e1, hc1, hf1⟩ := ct_lay hc hk hSj hi v
        obtain ⟨w2, e2, hm2, hf2⟩ := mt_lay (ws_Mkeep hf1 hm) hk hSj hi v
        exact ⟨_, w1, w2, _, e1, e2, ws_Ckeep hf2 hc1, hm2, mt_z (ws_Mkeep hf1 hm)⟩
      · rw [hSj] at hSk s3
        obtain ⟨a1, a2, a3, a4, a5⟩ := hSk
        obtain ⟨a, c', f, e1, e2, e3, e4, e5, e6, e7, e8⟩ := s3
        subst e1
        have hne4 : ¬ nI y.1 = -4 := fun q => by
          have := congrArg Int32.toInt q
          rw [nI_toInt (by omega)] at this
          have e : (-4 : Int32).toInt = -4 := rfl
          omega
        refine ⟨-12, w, w, S, ?_, ?_, hc, hm, mt_z hm⟩
        · unfold fX3_lay
          rw [st_isSheet, Option.bind_some, nu_sel, if_pos (by rw [nI_toInt (by omega)]; omega), s1, s2, Option.bind_some]
          simp only [mg_if0]
          rw [wr_rc e4, st_hasCell e4 e5 e7, Option.bind_some, nu_sel, if_neg (by rw [Int32.toInt_toInt64]; omega)]
        · unfold fX4_lay
          rw [st_isSheetM, Option.bind_some, nu_sel, if_pos (by rw [nI_toInt (by omega)]; exact ⟨by omega, by decide⟩), wr_gN h4 rfl, wr_ldI h11 hk (by omega), Option.bind_some, a1, if_neg hne4, wr_gN h4 rfl, wr_ldI h12 hk (by omega), Option.bind_some, a2, st_inI (a := 0) rfl (mt_sz a4), Option.bind_some, nu_sel, if_neg c]
theorem i_scan (hc : ws_C z w sz n A S tL tG tU pa) (hm : ws_M z w n A S pl ps pg) (x1 x2 x3 x4 : Int32) : ∃ r w1 kc ks w2 n2 A2, fX3_scan z x1 x2 x3 x4 w sz = some (r, w1, kc, ks) ∧ fX4_scan (z + 4) x1 x2 x3 x4 w1 = some (r, w2) ∧ ws_C z w2 (sz + kc) n2 A2 S tL tG tU pa ∧ ws_M z w2 n2 A2 S pl ps pg ∧ kc ≤ 32 ∧ ks ≤ 2000 ∧ ∃ fs, w1 (z + 4) = some (.inl (4, fs)) := by
  have bad : ∀ r, fX3_scan z x1 x2 x3 x4 w sz = some (r, w, 0, 0) → fX4_scan (z + 4) x1 x2 x3 x4 w = some (r, w) → ∃ r w1 kc ks w2 n2 A2, fX3_scan z x1 x2 x3 x4 w sz = some (r, w1, kc, ks) ∧ fX4_scan (z + 4) x1 x2 x3 x4 w1 = some (r, w2) ∧ ws_C z w2 (sz + kc) n2 A2 S tL tG tU pa ∧ ws_M z w2 n2 A2 S pl ps pg ∧ kc ≤ 32 ∧ ks ≤ 2000 ∧ ∃ fs, w1 (z + 4) = some (.inl (4, fs)) := fun r e1 e2 => ⟨r, w, 0, 0, w, n, A, e1, e2, hc, hm, by omega, by omega, mt_z hm⟩
  have hmm := hm
  obtain ⟨ft, fd, fh, fl, fs, fc, gl, gs, gg, h4, h5, h6, h7, h8, h9, h10, h11, h12, h13, hn16, hA, hS, hT⟩ := hmm
  rcases nu_ixS x1 with c | ⟨k, hk, rfl⟩
  · refine bad (-1) ?_ ?_
    · unfold fX3_scan
      rw [st_isSheet, Option.bind_some, nu_sel, if_neg c]
    · unfold fX4_scan
      rw [st_isSheetM, Option.bind_some, nu_sel, if_neg (fun q => c q.1)]
  · have ek : 0 ≤ (nI k).toInt ∧ (nI k).toInt ≤ 3 := by rw [nI_toInt (by omega)]; omega
    by_cases c2 : 0 ≤ x2.toInt ∧ x2.toInt ≤ 1
    · by_cases c4 : 0 ≤ x4.toInt ∧ x4.toInt ≤ 16
      · obtain ⟨r, s1, s2, s3⟩ := ct_sh hc hk
        have hs := hS k hk
        obtain ⟨ln2, -, hl2, rfl⟩ := nu_rg (a := 0) (b := 1) (by omega) c2
        obtain ⟨M, -, hM, rfl⟩ := nu_rg (a := 0) (b := 16) (by omega) c4
        have hv3 : fX3_scan z (nI k) (nI ln2) x3 (nI M) w sz = mg_if0 r (some (-11, w, 0, 0)) fun a5 => (mg_gI w 1 a5 0).bind fun v6 => if v6 = nI ln2 then ((mg_gI w 3 z 3).bind fun v7 => fX3_scan_b65 mg_N z x3 (nI M) a5 v7 (0 : Int32) w sz) else (some ((-13 : Int32), w, 0, 0)) := by
          unfold fX3_scan
          rw [st_isSheet, Option.bind_some, nu_sel, if_pos ek, st_isLane, Option.bind_some, nu_sel, if_pos c2, if_neg (nI_pos (by omega)), if_pos (by exact nI_le (b := 16) hM (by omega)), s1, s2, Option.bind_some]
        have hv4 : ∀ w1, ws_Fc z w w1 → fX4_scan (z + 4) (nI k) (nI ln2) x3 (nI M) w1 = if fl k = nI ln2 then ((mg_gI w1 4 (z + 4) 0).bind fun v5 => fX4_scan_b64 mg_N (z + 4) (nI k) x3 (nI M) v5 (0 : Int32) (0 : Int32) w1) else if fl k = -4 then some (-11, w1) else some (-13, w1) := by
          intro w1 hf
          unfold fX4_scan
          rw [st_isSheetM, Option.bind_some, nu_sel, if_pos ⟨ek, c2⟩, st_inI (a := 0) (b := 16) rfl rfl, Option.bind_some, nu_sel, if_pos c4, wr_gN (by rw [hf _ (by omega) (by omega)]; exact h4) rfl, wr_ldI (by rw [hf _ (by omega) (by omega)]; exact h11) hk (by omega), Option.bind_some, wr_gN (by rw [hf _ (by omega) (by omega)]; exact h4) rfl, wr_ldI (by rw [hf _ (by omega) (by omega)]; exact h11) hk (by omega), Option.bind_some]
        have hln : ∀ a : Nat, a ≤ 1 → ¬ nI a = -4 := fun a ha q => by
          have := congrArg Int32.toInt q
          rw [nI_toInt (by omega)] at this
          have e : (-4 : Int32).toInt = -4 := rfl
          omega
        cases hSj : S k with
        | none =>
          rw [hSj] at hs s3
          have hs : fl k = -4 := hs
          have s3 : r = none := s3
          subst s3
          refine bad (-11) (by rw [hv3]; rfl) ?_
          rw [hv4 w (fun _ _ _ => rfl), hs, if_neg (fun q => hln ln2 hl2 q.symm), if_pos rfl]
        | some y =>
          rw [hSj] at hs s3
          obtain ⟨a1, a2, a3, a4, a5⟩ := hs
          obtain ⟨a, c', f, e1, e2, e3, e4, e5, e6, e7, e8⟩ := s3
          subst e1
          by_cases d : y.1 = ln2
          · obtain ⟨w1, kc, ks, f1, hc1, hf1, k1, k2⟩ := ct_scanL (M := M) (m := y.2.1) (n0 := n) (c := y.2.2) x3 e7 hM e2 e3 e8 M mg_N 0 sz n w A hc e4 e5 (Nat.le_refl _) (by omega) (by unfold mg_N; omega)
            obtain ⟨w2, f2, hm2, hf2⟩ := mt_scanL (M := M) (k := k) (m := y.2.1) (n0 := n) (ln := y.1) (c := y.2.2) x3 hk hM hSj M mg_N 0 n w1 A (ws_Mkeep hf1 hm) (Nat.le_refl _) (by omega) (by unfold mg_N; omega)
            refine ⟨(sc_F y.2.1 y.2.2 x3.toInt n M 0 n A).1, w1, kc, ks, w2, _, _, ?_, ?_, ws_Ckeep hf2 hc1, hm2, by omega, by omega, mt_z (ws_Mkeep hf1 hm)⟩
            · rw [hv3]
              simp only [mg_if0]
              rw [wr_gI e4 rfl, Option.bind_some, if_pos (by rw [d]), ct_gn hc, Option.bind_some]
              exact f1
            · rw [hv4 w1 hf1, a1, if_pos (by rw [d]), mt_gn (ws_Mkeep hf1 hm), Option.bind_some]
              exact f2
          · have hne : ¬ nI y.1 = nI ln2 := fun q => d ((nI_eq (by omega) (by omega)).mp q)
            refine bad (-13) ?_ ?_
            · rw [hv3]
              simp only [mg_if0]
              rw [wr_gI e4 rfl, Option.bind_some, if_neg hne]
            · rw [hv4 w (fun _ _ _ => rfl), a1, if_neg hne, if_neg (hln _ a3)]
      · refine bad (-1) ?_ ?_
        · unfold fX3_scan
          rw [st_isSheet, Option.bind_some, nu_sel, if_pos ek, st_isLane, Option.bind_some, nu_sel, if_pos c2]
          simp only [Int32.lt_iff_toInt_lt, Int32.le_iff_toInt_le, show (0 : Int32).toInt = 0 from rfl, show (16 : Int32).toInt = 16 from rfl]
          by_cases d : x4.toInt < 0
          · rw [if_pos d]
          · rw [if_neg d, if_neg (by omega)]
        · unfold fX4_scan
          rw [st_isSheetM, Option.bind_some, nu_sel, if_pos ⟨ek, c2⟩, st_inI (a := 0) (b := 16) rfl rfl, Option.bind_some, nu_sel, if_neg c4]
    · refine bad (-1) ?_ ?_
      · unfold fX3_scan
        rw [st_isSheet, Option.bind_some, nu_sel, if_pos ek, st_isLane, Option.bind_some, nu_sel, if_neg c2]
      · unfold fX4_scan
        rw [st_isSheetM, Option.bind_some, nu_sel, if_neg (fun q => c2 q.2)]
end IC
