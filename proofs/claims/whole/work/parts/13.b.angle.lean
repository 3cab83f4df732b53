theorem nu_Lof {x : Int64} (h : 0 ≤ x.toInt) : x = lN x.toInt.toNat := by
  have h2 : x.toInt < 2 ^ 63 := Int64.toInt_lt x
  apply Int64.toInt_inj.mp
  rw [pk_lT (by omega)]
  omega
/-- what angle(a, b) answers, and the ANGLES behind it -/
def an_F (n : Nat) (A : ws_A) (a b : Int64) : Int32 × Nat × ws_A := if 1 ≤ b.toInt ∧ b.toInt ≤ 511 ∧ 0 ≤ a.toInt ∧ a.toInt < b.toInt then (if n = 16 then (-3, n, A) else (nI n, n + 1, ws_up A n (ws_red a.toInt.toNat b.toInt.toNat))) else (-1, n, A)
theorem an_G {a b : Nat} (h : a < b) (hb : b ≤ 511) : nt_G (b / Nat.gcd a b) := by
  have hg : 0 < Nat.gcd a b := Nat.gcd_pos_of_pos_right _ (by omega)
  have hgl : Nat.gcd a b ≤ b := Nat.le_of_dvd (by omega) (Nat.gcd_dvd_right _ _)
  exact ⟨Nat.div_pos hgl hg, Or.inl (Nat.le_trans (Nat.div_le_self _ _) hb)⟩
section AN
variable {z sz n : Nat} {w : mg_H} {A : ws_A} {S : ws_S} {tL tG tU pl : Nat → Int32} {ps pg : Nat → Int64} {pa : Option Nat}
theorem ct_angle (hc : ws_C z w sz n A S tL tG tU pa) (a b : Int64) : ∃ w2 kc ks, fX3_angle z a b w sz = some ((an_F n A a b).1, w2, kc, ks) ∧ ws_C z w2 (sz + kc) (an_F n A a b).2.1 (an_F n A a b).2.2 S tL tG tU pa ∧ ws_Fc z w w2 ∧ ws_Old z sz w w2 ∧ kc ≤ 1 ∧ ks ≤ 4 := by
  obtain ⟨_, hz⟩ := ct_z hc
  have bad : ¬ (1 ≤ b.toInt ∧ b.toInt ≤ 511 ∧ 0 ≤ a.toInt ∧ a.toInt < b.toInt) → fX3_angle z a b w sz = some (-1, w, 0, 0) := by
    intro h
    unfold fX3_angle
    simp only [lg_cmp_lt, lg_cmp_gt, Int64.lt_iff_toInt_lt, show (1 : Int64).toInt = 1 from rfl, show (511 : Int64).toInt = 511 from rfl, show (0 : Int64).toInt = 0 from rfl]
    by_cases c1 : b.toInt < 1
    · rw [if_pos c1]
    · rw [if_neg c1]
      by_cases c2 : 511 < b.toInt
      · rw [if_pos c2]
      · rw [if_neg c2]
        by_cases c3 : a.toInt < 0
        · rw [if_pos c3]
        · rw [if_neg c3, if_neg (by omega)]
  unfold an_F
  by_cases c : 1 ≤ b.toInt ∧ b.toInt ≤ 511 ∧ 0 ≤ a.toInt ∧ a.toInt < b.toInt
  · simp only [if_pos c]
    have ea := nu_Lof c.2.2.1
    have eb := nu_Lof (show 0 ≤ b.toInt by omega)
    have hv : fX3_angle z a b w sz = mg_bA (fX3_keep z a b w sz) fun v1 w2 kc3 ks4 => some (v1, w2, 0, 0) := by
      unfold fX3_angle
      simp only [lg_cmp_lt, lg_cmp_gt, Int64.lt_iff_toInt_lt, show (1 : Int64).toInt = 1 from rfl, show (511 : Int64).toInt = 511 from rfl, show (0 : Int64).toInt = 0 from rfl]
      rw [if_neg (by omega), if_neg (by omega), if_neg (by omega), if_pos (by omega), wr_rc hz]
    rw [hv]
    have hab : a.toInt.toNat < b.toInt.toNat := by omega
    rcases ct_keep hc hab (by omega) (an_G hab (by omega)) with ⟨h16, e⟩ | ⟨h16, w2, e, hc2, hf, ho⟩
    · have e' : fX3_keep z a b w sz = some (-3, w, 0, 0) := by rw [ea, eb]; exact e
      simp only [if_pos h16]
      exact ⟨w, 0, 0, by rw [e']; rfl, hc, fun _ _ _ => rfl, fun _ _ _ => rfl, by omega, by omega⟩
    · have e' : fX3_keep z a b w sz = some (nI n, w2, 1, 4) := by rw [ea, eb]; exact e
      simp only [if_neg (show ¬ n = 16 by omega)]
      exact ⟨w2, 1, 4, by rw [e']; rfl, hc2, hf, ho, by omega, by omega⟩
  · simp only [if_neg c]
    exact ⟨w, 0, 0, bad c, hc, fun _ _ _ => rfl, fun _ _ _ => rfl, by omega, by omega⟩
theorem mt_angle (hm : ws_M z w n A S pl ps pg) (a b : Int64) : ∃ w2, fX4_angle (z + 4) a b w = some ((an_F n A a b).1, w2) ∧ ws_M z w2 (an_F n A a b).2.1 (an_F n A a b).2.2 S pl ps pg ∧ ws_Fm z w w2 := by
  obtain ⟨_, hz⟩ := mt_z hm
  have hb1 : 1 ≤ b.toInt → (b - 1).toInt = b.toInt - 1 := by
    intro h
    have := Int64.toInt_lt b
    rw [Int64.toInt_sub, show (1 : Int64).toInt = 1 from rfl, Int.bmod_eq_of_le (by omega) (by omega)]
  unfold an_F
  unfold fX4_angle
  rw [st_in, Option.bind_some, nu_sel]
  simp only [Int64.le_iff_toInt_le, show (1 : Int64).toInt = 1 from rfl, show (511 : Int64).toInt = 511 from rfl]
  by_cases c1 : 1 ≤ b.toInt ∧ b.toInt ≤ 511
  · rw [if_pos c1, st_in, Option.bind_some, nu_sel]
    simp only [Int64.le_iff_toInt_le, show (0 : Int64).toInt = 0 from rfl, hb1 c1.1]
    by_cases c2 : 0 ≤ a.toInt ∧ a.toInt ≤ b.toInt - 1
    · have c : 1 ≤ b.toInt ∧ b.toInt ≤ 511 ∧ 0 ≤ a.toInt ∧ a.toInt < b.toInt := by omega
      rw [if_pos c2, wr_rc hz]
      simp only [if_pos c]
      have ea := nu_Lof c.2.2.1
      have eb := nu_Lof (show 0 ≤ b.toInt by omega)
      have hab : a.toInt.toNat < b.toInt.toNat := by omega
      rcases mt_comes hm hab (by omega) (an_G hab (by omega)) with ⟨h16, e⟩ | ⟨h16, w2, e, hc2, hf⟩
      · have e' : fX4_comes (z + 4) a b w = some (-3, w) := by rw [ea, eb]; exact e
        simp only [if_pos h16]
        exact ⟨w, by rw [e']; rfl, hm, fun _ _ => rfl⟩
      · have e' : fX4_comes (z + 4) a b w = some (nI n, w2) := by rw [ea, eb]; exact e
        simp only [if_neg (show ¬ n = 16 by omega)]
        exact ⟨w2, by rw [e']; rfl, hc2, hf⟩
    · rw [if_neg c2]
      simp only [if_neg (show ¬ (1 ≤ b.toInt ∧ b.toInt ≤ 511 ∧ 0 ≤ a.toInt ∧ a.toInt < b.toInt) by omega)]
      exact ⟨w, rfl, hm, fun _ _ => rfl⟩
  · rw [if_neg c1]
    simp only [if_neg (show ¬ (1 ≤ b.toInt ∧ b.toInt ≤ 511 ∧ 0 ≤ a.toInt ∧ a.toInt < b.toInt) by omega)]
    exact ⟨w, rfl, hm, fun _ _ => rfl⟩
theorem ct_setn (hc : ws_C z w sz n A S tL tG tU pa) {m : Nat} {A2 : ws_A} (hm : m ≤ n) (hA2 : ∀ k, k < m → A2 k = A k) : ∃ w2, mg_pI w 3 z 3 (nI m) = some w2 ∧ ws_C z w2 sz m A2 S tL tG tU pa ∧ ws_Fc z w w2 ∧ mg_gI w2 3 z 3 = some (nI m) := by
  obtain ⟨fT, fS, fR, h0, h1, h2, h3, hn, hs, hz, hA, hS, hd, hp⟩ := hc
  refine ⟨_, wr_pI h0 (by simp), ?_, fun x q1 q2 => wr_ne (by omega), wr_gI (wr_set _ _ _) rfl⟩
  have o : ∀ x, x ≠ z → mg_set w z (.inl (3, [Value.ref (z + 1), Value.ref (z + 2), Value.ref (z + 3), Value.int (nI n), va_rf pa].set 3 (Value.int (nI m)))) x = w x := fun x hx => wr_ne hx
  generalize hW : mg_set w z _ = W at *
  obtain ⟨r1, r2, r3⟩ := ws_rest (w2 := W) (fun x q _ => o x (by omega)) hS hd hp
  refine ⟨fT, fS, fR, by rw [← hW, wr_set]; rfl, by rw [o _ (by omega)]; exact h1, by rw [o _ (by omega)]; exact h2, by rw [o _ (by omega)]; exact h3, by omega, hs, fun x q => by rw [o _ (by omega)]; exact hz x q, fun k q => ?_, r1, r2, r3⟩
  rw [hA2 k q]
  obtain ⟨b1, x, b2, b3, b4⟩ := hA k (by omega)
  exact ⟨b1, x, b2, b3, by rw [o _ (by omega)]; exact b4⟩
theorem mt_setn (h : ws_M z w n A S pl ps pg) {m : Nat} {A2 : ws_A} (hm : m ≤ n) (hA2 : ∀ k, k < m → A2 k = A k) : ∃ w2, mg_pI w 4 (z + 4) 0 (nI m) = some w2 ∧ ws_M z w2 m A2 S pl ps pg ∧ ws_Fm z w w2 ∧ mg_gI w2 4 (z + 4) 0 = some (nI m) := by
  obtain ⟨ft, fd, fh, fl, fs, fc, gl, gs, gg, h4, h5, h6, h7, h8, h9, h10, h11, h12, h13, hn, hA, hS, hT⟩ := h
  refine ⟨_, wr_pI h4 (by simp), ?_, fun x q => wr_ne (by omega), wr_gI (wr_set _ _ _) rfl⟩
  refine ⟨ft, fd, fh, fl, fs, fc, gl, gs, gg, by rw [wr_set]; rfl, ?_, ?_, ?_, ?_, ?_, ?_, ?_, ?_, ?_, by omega, fun k q => by rw [hA2 k q]; exact hA k (by omega), hS, hT⟩ <;> (rw [wr_ne (by omega)]; assumption)
theorem ct_gn (hc : ws_C z w sz n A S tL tG tU pa) : mg_gI w 3 z 3 = some (nI n) := by
  obtain ⟨fT, fS, fR, h0, -⟩ := hc
  exact wr_gI h0 rfl
theorem mt_gn (hm : ws_M z w n A S pl ps pg) : mg_gI w 4 (z + 4) 0 = some (nI n) := by
  obtain ⟨ft, fd, fh, fl, fs, fc, gl, gs, gg, h4, -⟩ := hm
  exact wr_gI h4 rfl
theorem j_drop (hc : ws_C z w sz n A S tL tG tU pa) (hm : ws_M z w n A S pl ps pg) : ∃ r w1 w2 n2, fX3_drop z w = some (r, w1) ∧ fX4_drop (z + 4) w1 = some (r, w2) ∧ ws_C z w2 sz n2 A S tL tG tU pa ∧ ws_M z w2 n2 A S pl ps pg := by
  have hn := ct_n hc
  unfold fX3_drop
  rw [ct_gn hc, Option.bind_some]
  by_cases c : n = 0
  · subst c
    rw [if_pos (by rfl)]
    refine ⟨_, _, _, 0, rfl, ?_, hc, hm⟩
    unfold fX4_drop
    rw [mt_gn hm, Option.bind_some, if_pos (by rfl)]
  · have e : nI n - 1 = nI (n - 1) := pk_sub (b := 1) (by omega)
    rw [if_neg (nI_ne0 (by omega) (by omega)), Option.bind_some, e]
    obtain ⟨w1, e1, hc1, hf1, g1⟩ := ct_setn hc (m := n - 1) (A2 := A) (by omega) (fun _ _ => rfl)
    have hm1 := ws_Mkeep hf1 hm
    obtain ⟨w2, e2, hm2, hf2, g2⟩ := mt_setn hm1 (m := n - 1) (A2 := A) (by omega) (fun _ _ => rfl)
    rw [e1, Option.bind_some, g1, Option.bind_some]
    refine ⟨_, _, w2, n - 1, rfl, ?_, ws_Ckeep hf2 hc1, hm2⟩
    unfold fX4_drop
    rw [mt_gn hm1, Option.bind_some, if_neg (nI_ne0 (by omega) (by omega)), Option.bind_some, e, e2, Option.bind_some, g2, Option.bind_some]
theorem j_angle (hc : ws_C z w sz n A S tL tG tU pa) (hm : ws_M z w n A S pl ps pg) (a b : Int64) : ∃ r w1 kc ks w2 n2 A2, fX3_angle z a b w sz = some (r, w1, kc, ks) ∧ fX4_angle (z + 4) a b w1 = some (r, w2) ∧ ws_C z w2 (sz + kc) n2 A2 S tL tG tU pa ∧ ws_M z w2 n2 A2 S pl ps pg ∧ kc ≤ 32 ∧ ks ≤ 2000 := by
  obtain ⟨w1, kc, ks, e1, hc1, hf1, -, k1, k2⟩ := ct_angle hc a b
  obtain ⟨w2, e2, hm2, hf2⟩ := mt_angle (ws_Mkeep hf1 hm) a b
  exact ⟨_, w1, kc, ks, w2, _, _, e1, e2, ws_Ckeep hf2 hc1, hm2, by omega, by omega⟩
end AN
