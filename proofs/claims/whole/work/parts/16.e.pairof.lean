section TE
variable {z sz n : Nat} {w : mg_H} {A : ws_A} {S : ws_S} {pa : Option Nat} {p : Nat}
theorem mt_pairOf (hm : ws_M z w n A S km_l km_s km_g) {i : Nat} (hi : i < n) : (¬ ((A i).2 % 2 = 1 ∧ nt_L (A i).2 ≤ 8) → fX4_pairOf (z + 4) (nI i) w = some (-4)) ∧ ∀ k, tk (A i) k → (A i).2 % 2 = 1 → nt_L (A i).2 ≤ 8 → fX4_pairOf (z + 4) (nI i) w = some (nI k) := by
  obtain ⟨_, hz4⟩ := mt_z hm
  obtain ⟨-, f1, f2, l5, l6⟩ := mt_at hm hi
  have ho := mt_ok hm hi
  have hl := nt_Glt ho.2.2
  have hL := nt_Lspec ho.2.2
  unfold fX4_pairOf
  rw [wr_rc hz4, mt_back hm hi, Option.bind_some, nu_sel]
  simp only [f1, f2, l5, l6, Option.bind_some, st_len ho.2.2]
  constructor
  · intro h
    by_cases c : (A i).2 % 2 = 1
    · rw [if_pos c, if_neg (by exact nI_ge (a := 8) (b := nt_L (A i).2) (by omega) (by omega))]
    · rw [if_neg c]
  · intro k hk c d
    have hk0 := hk
    obtain ⟨a1, a2, a3, a4⟩ := hk
    rw [if_pos c, if_pos (by exact nI_le (a := nt_L (A i).2) (b := 8) d (by omega)), ← a2, st_whole (tl k) (by have := (tf a1).2.1; omega), Option.bind_some, if_neg (nu_lz hl.1 (by omega)), show lN (2 ^ tl k - 1) = lN (tw k) from rfl, pk_lDiv (by have := tw_bnd a1; omega) hl.1 (by omega), lN_mul, a2]
    have := mt_ofL hm ho hk0 k mg_N 0 (by omega) (by unfold mg_N; omega)
    rw [show nI 0 = (0 : Int32) from nI_0] at this
    trace_state
    sorry
end TE
