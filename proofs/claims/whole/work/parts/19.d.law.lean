/-! THE LAW, call by call -/
def cl_T (d : Nat) (X : Option (Int32 × mg_H × Nat × Nat)) : Prop := ∃ w' kc ks, X = some (1, w', kc, ks) ∧ kc ≤ 32 * d ∧ ks ≤ 2000 * d
def cl_G (z d : Nat) (rec : mg_H → Nat → Option (Int32 × mg_H × Nat × Nat)) : Prop := ∀ w sz n A S pa, ws_C z w sz n A S kt_L kt_G kt_U pa → ws_M z w n A S km_l km_s km_g → cl_T d (rec w sz)
theorem cl_up {d a b : Nat} {X : Option (Int32 × mg_H × Nat × Nat)} (h : cl_T d X) (ha : a ≤ 32) (hb : b ≤ 2000) : cl_T (d + 1) (mg_bmp a b X) := by
  obtain ⟨w', kc, ks, rfl, h1, h2⟩ := h
  exact ⟨w', _, _, wr_bmp, by omega, by omega⟩
theorem cl_u0 {d : Nat} {X : Option (Int32 × mg_H × Nat × Nat)} (h : cl_T d X) : cl_T (d + 1) X := by
  obtain ⟨w', kc, ks, rfl, h1, h2⟩ := h
  exact ⟨w', _, _, rfl, by omega, by omega⟩
section LW
variable {z sz n d : Nat} {w : mg_H} {A : ws_A} {S : ws_S} {pa : Option Nat} {rec : mg_H → Nat → Option (Int32 × mg_H × Nat × Nat)}
theorem cl_P (hr : cl_G z d rec) (hc : ws_C z w sz n A S kt_L kt_G kt_U pa) (hm : ws_M z w n A S km_l km_s km_g) {F G : Option Int32} (h : ∃ r, F = some r ∧ G = some r) : cl_T (d + 1) (mg_rc w 3 z (F.bind fun v => mg_rc w 4 (z + 4) (G.bind fun v' => if v = v' then rec w sz else some ((0 : Int32), w, 0, 0)))) := by
  obtain ⟨_, hz⟩ := ct_z hc
  obtain ⟨_, hz4⟩ := mt_z hm
  obtain ⟨r, e1, e2⟩ := h
  rw [wr_rc hz, e1, Option.bind_some, wr_rc hz4, e2, Option.bind_some, if_pos rfl]
  exact cl_u0 (hr w sz n A S pa hc hm)
theorem cl_S (hr : cl_G z d rec) (hc : ws_C z w sz n A S kt_L kt_G kt_U pa) {F : Option (Int32 × mg_H)} {G : mg_H → Option Int32} (h : ∃ r w1, F = some (r, w1) ∧ G w1 = some r ∧ ws_C z w1 sz n A S kt_L kt_G kt_U pa ∧ ws_M z w1 n A S km_l km_s km_g) : cl_T (d + 1) (mg_rc w 3 z (mg_bS F fun v w1 => mg_rc w1 4 (z + 4) ((G w1).bind fun v' => if v = v' then rec w1 sz else some ((0 : Int32), w1, 0, 0)))) := by
  obtain ⟨_, hz⟩ := ct_z hc
  obtain ⟨r, w1, e1, e2, hc1, hm1⟩ := h
  obtain ⟨_, hz4⟩ := mt_z hm1
  rw [wr_rc hz, e1, wr_bS, wr_rc hz4, e2, Option.bind_some, if_pos rfl]
  exact cl_u0 (hr w1 sz n A S pa hc1 hm1)
theorem cl_D (hr : cl_G z d rec) (hc : ws_C z w sz n A S kt_L kt_G kt_U pa) {F : Option (Int32 × mg_H)} {G : mg_H → Option (Int32 × mg_H)} {n2 : Nat} {S2 : ws_S} {r : Int32} {w1 w2 : mg_H} (e1 : F = some (r, w1)) (e2 : G w1 = some (r, w2)) (hc2 : ws_C z w2 sz n2 A S2 kt_L kt_G kt_U pa) (hm2 : ws_M z w2 n2 A S2 km_l km_s km_g) (h4 : ∃ fs, w1 (z + 4) = some (.inl (4, fs))) : cl_T (d + 1) (mg_rc w 3 z (mg_bS F fun v w1 => mg_rc w1 4 (z + 4) (mg_bS (G w1) fun v' w2 => if v = v' then rec w2 sz else some ((0 : Int32), w2, 0, 0)))) := by
  obtain ⟨_, hz⟩ := ct_z hc
  obtain ⟨_, hz4⟩ := h4
  rw [wr_rc hz, e1, wr_bS, wr_rc hz4, e2, wr_bS, if_pos rfl]
  exact cl_u0 (hr w2 sz n2 A S2 pa hc2 hm2)
theorem cl_A (hr : cl_G z d rec) (hc : ws_C z w sz n A S kt_L kt_G kt_U pa) {F : Option (Int32 × mg_H × Nat × Nat)} {G : mg_H → Option Int32} (h : jt_A z sz n A S F G) : cl_T (d + 1) (mg_rc w 3 z (mg_bA F fun v w1 kc ks => mg_rc w1 4 (z + 4) ((G w1).bind fun v' => if v = v' then rec w1 (sz + kc) else some ((0 : Int32), w1, 0, 0)))) := by
  obtain ⟨_, hz⟩ := ct_z hc
  obtain ⟨r, w1, kc, ks, pa1, e1, e2, hc1, hm1, k1, k2⟩ := h
  obtain ⟨_, hz4⟩ := mt_z hm1
  rw [wr_rc hz, e1, wr_bA, wr_rc hz4, e2, Option.bind_some, if_pos rfl]
  exact cl_up (hr w1 _ n A S pa1 hc1 hm1) k1 k2
theorem cl_B (hr : cl_G z d rec) (hc : ws_C z w sz n A S kt_L kt_G kt_U pa) {F : Option (Int32 × mg_H × Nat × Nat)} {G : mg_H → Option (Int32 × mg_H)} (h : jt_B z sz F G) : cl_T (d + 1) (mg_rc w 3 z (mg_bA F fun v w1 kc ks => mg_rc w1 4 (z + 4) (mg_bS (G w1) fun v' w2 => if v = v' then rec w2 (sz + kc) else some ((0 : Int32), w2, 0, 0)))) := by
  obtain ⟨_, hz⟩ := ct_z hc
  obtain ⟨r, w1, kc, ks, w2, n2, A2, S2, pa1, e1, e2, hc1, hm1, k1, k2, _, hz4⟩ := h
  rw [wr_rc hz, e1, wr_bA, wr_rc hz4, e2, wr_bS, if_pos rfl]
  exact cl_up (hr w2 _ n2 A2 S2 pa1 hc1 hm1) k1 k2
theorem jb_angle (hc : ws_C z w sz n A S kt_L kt_G kt_U pa) (hm : ws_M z w n A S km_l km_s km_g) (a b : Int64) : jt_B z sz (fX3_angle z a b w sz) (fX4_angle (z + 4) a b) := by
  obtain ⟨r, w1, kc, ks, w2, n2, A2, e1, e2, h1, h2, h3, h4, h5⟩ := i_angle hc hm a b
  exact ⟨r, w1, kc, ks, w2, n2, A2, S, pa, e1, e2, h1, h2, h3, h4, h5⟩
theorem jb_sheet (hc : ws_C z w sz n A S kt_L kt_G kt_U pa) (hm : ws_M z w n A S km_l km_s km_g) (x1 x2 x3 : Int32) : jt_B z sz (fX3_sheet z x1 x2 x3 w sz) (fX4_sheet (z + 4) x1 x2 x3) := by
  obtain ⟨r, w1, kc, ks, w2, S2, e1, e2, h1, h2, h3, h4, h5⟩ := i_sheet hc hm x1 x2 x3
  exact ⟨r, w1, kc, ks, w2, n, A, S2, pa, e1, e2, h1, h2, h3, h4, h5⟩
theorem jb_scan (hc : ws_C z w sz n A S kt_L kt_G kt_U pa) (hm : ws_M z w n A S km_l km_s km_g) (x1 x2 x3 x4 : Int32) : jt_B z sz (fX3_scan z x1 x2 x3 x4 w sz) (fX4_scan (z + 4) x1 x2 x3 x4) := by
  obtain ⟨r, w1, kc, ks, w2, n2, A2, e1, e2, h1, h2, h3, h4, h5⟩ := i_scan hc hm x1 x2 x3 x4
  exact ⟨r, w1, kc, ks, w2, n2, A2, S, pa, e1, e2, h1, h2, h3, h4, h5⟩
theorem cl_drop (hr : cl_G z d rec) (hc : ws_C z w sz n A S kt_L kt_G kt_U pa) (hm : ws_M z w n A S km_l km_s km_g) : cl_T (d + 1) (mg_rc w 3 z (mg_bS (fX3_drop z w) fun v w1 => mg_rc w1 4 (z + 4) (mg_bS (fX4_drop (z + 4) w1) fun v' w2 => if v = v' then rec w2 sz else some ((0 : Int32), w2, 0, 0)))) := by
  obtain ⟨r, w1, w2, n2, e1, e2, h1, h2, h3⟩ := i_drop hc hm
  exact cl_D hr hc e1 e2 h1 h2 h3
theorem cl_lay (hr : cl_G z d rec) (hc : ws_C z w sz n A S kt_L kt_G kt_U pa) (hm : ws_M z w n A S km_l km_s km_g) (x1 x2 : Int32) (x3 : Int64) : cl_T (d + 1) (mg_rc w 3 z (mg_bS (fX3_lay z x1 x2 x3 w) fun v w1 => mg_rc w1 4 (z + 4) (mg_bS (fX4_lay (z + 4) x1 x2 x3 w1) fun v' w2 => if v = v' then rec w2 sz else some ((0 : Int32), w2, 0, 0)))) := by
  obtain ⟨r, w1, w2, S2, e1, e2, h1, h2, h3⟩ := i_lay hc hm x1 x2 x3
  exact cl_D (G := fX4_lay (z + 4) x1 x2 x3) hr hc e1 e2 h1 h2 h3
theorem cl_sc {xs : Nat → Int32} {Ls c k : Nat} (hL : Ls ≤ 2560) (h : c + 5 ≤ Ls) (hk : k < 5) : mg_sc xs Ls (nI (c + k)) = some (xs (c + k)) := by
  unfold mg_sc
  rw [wr_ix (show c + k < Ls by omega) (by omega)]
  rfl
theorem cl_end {Ls c : Nat} (hL : Ls ≤ 2560) (hc : c ≤ 5000) : (Int32.ofNat Ls - 5 < nI c) ↔ Ls < c + 5 := by
  have e : (Int32.ofNat Ls - 5).toInt = (Ls : Int) - 5 := by
    have h1 : (nI Ls).toInt = Ls := nI_toInt (by omega)
    have h2 : (5 : Int32).toInt = 5 := by decide
    have h3 : Int32.ofNat Ls = nI Ls := rfl
    rw [h3, Int32.toInt_sub, h1, h2]
    exact Int.bmod_eq_of_le (by omega) (by omega)
  rw [Int32.lt_iff_toInt_lt, e, nI_toInt (by omega)]
  omega
theorem law_step (xs : Nat → Int32) {Ls f c : Nat} (hL : Ls ≤ 2560) (h5 : c + 5 ≤ Ls) (hr : cl_G z d (fun w sz => fL_law_b18 xs Ls f z (z + 4) (nI (c + 5)) w sz)) (hc : ws_C z w sz n A S kt_L kt_G kt_U pa) (hm : ws_M z w n A S km_l km_s km_g) : cl_T (d + 1) (fL_law_b18 xs Ls (f + 1) z (z + 4) (nI c) w sz) := by
  have s0 : mg_sc xs Ls (nI c) = some (xs c) := cl_sc (k := 0) hL h5 (by omega)
  have s1 : mg_sc xs Ls (nI c + 1) = some (xs (c + 1)) := by rw [show nI c + 1 = nI (c + 1) from nI_add c 1]; exact cl_sc hL h5 (by omega)
  have s2 : mg_sc xs Ls (nI c + 2) = some (xs (c + 2)) := by rw [show nI c + 2 = nI (c + 2) from nI_add c 2]; exact cl_sc hL h5 (by omega)
  have s3 : mg_sc xs Ls (nI c + 3) = some (xs (c + 3)) := by rw [show nI c + 3 = nI (c + 3) from nI_add c 3]; exact cl_sc hL h5 (by omega)
  have s4 : mg_sc xs Ls (nI c + 4) = some (xs (c + 4)) := by rw [show nI c + 4 = nI (c + 4) from nI_add c 4]; exact cl_sc hL h5 (by omega)
  have hn : ∀ w sz, fL_law_b1096 xs Ls (fL_law_b18 xs Ls f) z (z + 4) (nI c) w sz = fL_law_b18 xs Ls f z (z + 4) (nI (c + 5)) w sz := fun w sz => by
    unfold fL_law_b1096
    rw [show nI c + 5 = nI (c + 5) from nI_add c 5]
  rw [fL_law_b18, if_neg (fun q => by have := (cl_end hL (by omega)).mp q; omega)]
  simp only [s0, s1, s2, s3, s4, Option.bind_some, hn]
  generalize xs c &&& 31 = o
  by_cases c0 : o = 0
  · rw [if_pos c0]; exact cl_B hr hc (jb_angle hc hm _ _)
  rw [if_neg c0]
  by_cases c1 : o = 1
  · rw [if_pos c1]; exact cl_drop hr hc hm
  rw [if_neg c1]
  by_cases c2 : o = 2
  · rw [if_pos c2]; exact cl_P hr hc hm (j_told hc hm _ _)
  rw [if_neg c2]
  by_cases c3 : o = 3
  · rw [if_pos c3]; exact cl_P hr hc hm (j_doubled hc hm _ _ _)
  rw [if_neg c3]
  by_cases c4 : o = 4
  · rw [if_pos c4]; exact cl_S (G := fun _ => fX4_all (z + 4) (xs (c + 1))) hr hc (j_all hc hm _)
  rw [if_neg c4]
  by_cases c5 : o = 5
  · rw [if_pos c5]; exact cl_P hr hc hm (j_letter hc hm _ _ _)
  rw [if_neg c5]
  by_cases c6 : o = 6
  · rw [if_pos c6]; exact cl_S (G := fX4_address (z + 4) (xs (c + 1)) (xs (c + 2))) hr hc (j_address hc hm _ _)
  rw [if_neg c6]
  by_cases c7 : o = 7
  · rw [if_pos c7]; exact cl_P hr hc hm (j_cross hc hm _ _ _ _)
  rw [if_neg c7]
  by_cases c8 : o = 8
  · rw [if_pos c8]; exact cl_S (G := fX4_meet (z + 4) (xs (c + 1)) (xs (c + 2)) (xs (c + 3))) hr hc (j_meet hc hm _ _ _)
  rw [if_neg c8]
  by_cases c9 : o = 9
  · rw [if_pos c9]; exact cl_A hr hc (j_pairs hc hm _)
  rw [if_neg c9]
  by_cases c10 : o = 10
  · rw [if_pos c10]; exact cl_A hr hc (j_pair hc hm _ _ _)
  rw [if_neg c10]
  by_cases c11 : o = 11
  · rw [if_pos c11]; exact cl_B hr hc (j_partner hc hm _)
  rw [if_neg c11]
  by_cases c12 : o = 12
  · rw [if_pos c12]; exact cl_A hr hc (j_held hc hm _ _)
  rw [if_neg c12]
  by_cases c13 : o = 13
  · rw [if_pos c13]; exact cl_A hr hc (j_holder hc hm _ _ _ _)
  rw [if_neg c13]
  by_cases c14 : o = 14
  · rw [if_pos c14]; exact cl_A hr hc (j_holds hc hm _ _)
  rw [if_neg c14]
  by_cases c15 : o = 15
  · rw [if_pos c15]; exact cl_A hr hc (j_between hc hm _ _ _)
  rw [if_neg c15]
  by_cases c16 : o = 16
  · rw [if_pos c16]; exact cl_A hr hc (j_wide hc hm _ _)
  rw [if_neg c16]
  by_cases c17 : o = 17
  · rw [if_pos c17]; exact cl_P hr hc hm (j_digit hc hm _ _)
  rw [if_neg c17]
  by_cases c18 : o = 18
  · rw [if_pos c18]; exact cl_B hr hc (j_put hc hm _ _)
  rw [if_neg c18]
  by_cases c19 : o = 19
  · rw [if_pos c19]; exact cl_B hr hc (j_take hc hm _ _)
  rw [if_neg c19]
  by_cases c20 : o = 20
  · rw [if_pos c20]; exact cl_B hr hc (jb_sheet hc hm _ _ _)
  rw [if_neg c20]
  by_cases c21 : o = 21
  · rw [if_pos c21]; exact cl_lay hr hc hm _ _ _
  rw [if_neg c21]
  by_cases c22 : o = 22
  · rw [if_pos c22]; exact cl_B hr hc (jb_scan hc hm _ _ _ _)
  rw [if_neg c22]
  by_cases c23 : o = 23
  · rw [if_pos c23]; exact cl_P hr hc hm (j_count hc hm _)
  rw [if_neg c23]
  exact cl_u0 (hr w sz n A S pa hc hm)
theorem law_loop (xs : Nat → Int32) {Ls : Nat} (hL : Ls ≤ 2560) (z : Nat) : ∀ d f c, Ls < c + 5 * (d + 1) → c ≤ 2565 → d < f → cl_G z d (fun w sz => fL_law_b18 xs Ls f z (z + 4) (nI c) w sz) := by
  intro d
  induction d with
  | zero =>
    intro f c h1 h2 h3 w sz n A S pa hc hm
    obtain ⟨f, rfl⟩ : ∃ m, f = m + 1 := ⟨f - 1, by omega⟩
    show cl_T 0 (fL_law_b18 xs Ls (f + 1) z (z + 4) (nI c) w sz)
    rw [fL_law_b18, if_pos ((cl_end hL (by omega)).mpr (by omega))]
    exact ⟨w, 0, 0, rfl, by omega, by omega⟩
  | succ d ih =>
    intro f c h1 h2 h3 w sz n A S pa hc hm
    obtain ⟨f, rfl⟩ : ∃ m, f = m + 1 := ⟨f - 1, by omega⟩
    show cl_T (d + 1) (fL_law_b18 xs Ls (f + 1) z (z + 4) (nI c) w sz)
    by_cases h5 : c + 5 ≤ Ls
    · exact law_step xs hL h5 (ih f (c + 5) (by omega) (by omega) (by omega)) hc hm
    · rw [fL_law_b18, if_pos ((cl_end hL (by omega)).mpr (by omega))]
      exact ⟨w, 0, 0, rfl, by omega, by omega⟩
end LW
theorem law_pure (xs : Nat → Int32) (Ls : Nat) (hL : Ls ≤ 2560) (sz : Nat) : ∃ (w : mg_H) (kc ks : Nat), fL_law xs Ls (fun _ => none) sz = some (1, w, kc, ks) ∧ kc ≤ 600000 ∧ ks ≤ 7302250 := by
  obtain ⟨W, e, hc, hm⟩ := law_start xs Ls sz
  obtain ⟨w', kc, ks, e2, h1, h2⟩ := law_loop xs hL sz 512 mg_N 0 (by omega) (by omega) (by unfold mg_N; omega) W (sz + 14) 0 (fun _ => (0, 1)) (fun _ => none) none hc hm
  have e2 : fL_law_b18 xs Ls mg_N sz (sz + 4) 0 W (sz + 14) = some (1, w', kc, ks) := e2
  rw [e, e2]
  exact ⟨w', _, _, wr_bmp, by omega, by omega⟩
