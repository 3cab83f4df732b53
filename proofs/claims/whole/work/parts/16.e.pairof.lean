section TE
variable {z sz n : Nat} {w : mg_H} {A : ws_A} {S : ws_S} {pa : Option Nat} {p : Nat}
theorem mt_pairOf0 (hm : ws_M z w n A S km_l km_s km_g) {i : Nat} (hi : i < n) : fX4_pairOf (z + 4) (nI i) w = if (A i).2 % 2 = 1 then (if nt_L (A i).2 ≤ 8 then (fX4_whole (nI (nt_L (A i).2))).bind fun v7 => fX4_pairOf_b52 w mg_N (z + 4) (nI (nt_L (A i).2)) (lN (A i).1 * (v7 / lN (A i).2)) (0 : Int32) else some (-4)) else some (-4) := by
  obtain ⟨_, hz4⟩ := mt_z hm
  obtain ⟨-, f1, f2, l5, l6⟩ := mt_at hm hi
  have ho := mt_ok hm hi
  have hl := nt_Glt ho.2.2
  have hL := nt_Lspec ho.2.2
  have h0 : ¬ lN (A i).2 = 0 := nu_lz hl.1 (by omega)
  have e8 : (nI (nt_L (A i).2) ≤ 8) ↔ nt_L (A i).2 ≤ 8 := nI_leI (b := 8) (by omega) (by omega)
  unfold fX4_pairOf
  rw [wr_rc hz4, mt_back hm hi, Option.bind_some, nu_sel, f2, l6, Option.bind_some, st_len ho.2.2, Option.bind_some, nu_ite e8, f1, l5, Option.bind_some]
  simp only [f2, l6, Option.bind_some, if_neg h0]
theorem mt_pairOf (hm : ws_M z w n A S km_l km_s km_g) {i : Nat} (hi : i < n) : (¬ ((A i).2 % 2 = 1 ∧ nt_L (A i).2 ≤ 8) → fX4_pairOf (z + 4) (nI i) w = some (-4)) ∧ ∀ k, tk (A i) k → (A i).2 % 2 = 1 → nt_L (A i).2 ≤ 8 → fX4_pairOf (z + 4) (nI i) w = some (nI k) := by
  have ho := mt_ok hm hi
  have hl := nt_Glt ho.2.2
  rw [mt_pairOf0 hm hi]
  constructor
  · intro h
    by_cases c : (A i).2 % 2 = 1
    · rw [if_pos c, if_neg (fun q => h ⟨c, q⟩)]
    · rw [if_neg c]
  · intro k hk c d
    have a1 := hk.1
    have a2 := hk.2.1
    have hb := tw_bnd a1
    have e : fX4_whole (nI (nt_L (A i).2)) = some (lN (tw k)) := by
      have := st_whole (nt_L (A i).2) (by omega)
      unfold tw
      rw [a2]
      exact this
    rw [if_pos c, if_pos d, e, Option.bind_some, pk_lDiv (by omega) hl.1 (by omega), lN_mul]
    have := mt_ofL hm ho hk k mg_N 0 (by omega) (by unfold mg_N; omega)
    rw [show nI 0 = (0 : Int32) from nI_0] at this
    exact this
end TE
