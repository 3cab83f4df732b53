/-! the PARTNERS are made once -/
def kt_L (k : Nat) : Int32 := nI (ctb.getD k (0, 0)).1
def kt_G (k : Nat) : Int32 := nI (ctb.getD k (0, 0)).2
def kt_U (k : Nat) : Int32 := nI (cub.getD k 0)
def km_l (k : Nat) : Int32 := nI (tb.getD k (0, 0, 0)).1
def km_s (k : Nat) : Int64 := lN (tb.getD k (0, 0, 0)).2.1
def km_g (k : Nat) : Int64 := lN (tb.getD k (0, 0, 0)).2.2
theorem tb_len : tb.length = 236 := by decide +kernel
theorem ctb_len : ctb.length = 236 := by unfold ctb; rw [List.length_map, tb_len]
theorem wr_naI {β : Type} {w : mg_H} {s kd n : Nat} (hn : n ≤ 67108864) (K : mg_H → Option (β × mg_H × Nat × Nat)) : mg_naI w s kd (nI n) K = mg_bmp 1 n (K (mg_set w s (.inr (kd, n, .inl fun _ => 0)))) := by
  unfold mg_naI
  rw [nI_clamp (by omega), if_neg (fun q => q.elim (nI_pos (by omega)) (by omega))]
theorem wr_naL {β : Type} {w : mg_H} {s n : Nat} (hn : n ≤ 67108864) (K : mg_H → Option (β × mg_H × Nat × Nat)) : mg_naL w s (nI n) K = mg_bmp 1 n (K (mg_set w s (.inr (2, n, .inr (.inl fun _ => 0))))) := by
  unfold mg_naL
  rw [nI_clamp (by omega), if_neg (fun q => q.elim (nI_pos (by omega)) (by omega))]
theorem wr_naQ {β : Type} {w : mg_H} {s kd n : Nat} (hn : n ≤ 67108864) (K : mg_H → Option (β × mg_H × Nat × Nat)) : mg_naQ w s kd (nI n) K = mg_bmp 1 n (K (mg_set w s (.inr (kd, n, .inr (.inr (.inr (.inr fun _ => none))))))) := by
  unfold mg_naQ
  rw [nI_clamp (by omega), if_neg (fun q => q.elim (nI_pos (by omega)) (by omega))]
theorem wr_bmp {α : Type} {k n a b : Nat} {x : α} {w : mg_H} : mg_bmp k n (some (x, w, a, b)) = some (x, w, k + a, n + b) := rfl
theorem cp_init {w : mg_H} {p : Nat} (h0 : w p = some (.inl (0, [.null, .null, .null, .int 0]))) : ∃ w' h', fX0_init p w (p + 1) = some ((), w', 4, 736) ∧ cp_W w p w' ctb cub 255 h' := by
  unfold fX0_init
  rw [show (236 : Int32) = nI 236 from rfl, show (9 : Int32) = nI 9 from rfl, wr_naI (by omega)]
  generalize hW1 : mg_set w (p + 1) _ = W1
  have a0 : W1 p = some (.inl (0, [.null, .null, .null, .int 0])) := by rw [← hW1, wr_ne (by omega)]; exact h0
  rw [wr_pQ a0 (Nat.le_of_ble_eq_true rfl), Option.bind_some]
  generalize hW2 : mg_set W1 p _ = W2
  have b0 : W2 p = some (.inl (0, [.ref (p + 1), .null, .null, .int 0])) := by rw [← hW2, wr_set]; rfl
  rw [wr_naI (by omega)]
  generalize hW3 : mg_set W2 (p + 1 + 1) _ = W3
  have c0 : W3 p = some (.inl (0, [.ref (p + 1), .null, .null, .int 0])) := by rw [← hW3, wr_ne (by omega), b0]
  rw [wr_pQ c0 (Nat.le_of_ble_eq_true rfl), Option.bind_some]
  generalize hW4 : mg_set W3 p _ = W4
  have d0 : W4 p = some (.inl (0, [.ref (p + 1), .ref (p + 2), .null, .int 0])) := by rw [← hW4, wr_set]; rfl
  rw [wr_naI (by omega)]
  generalize hW5 : mg_set W4 (p + 1 + 1 + 1) _ = W5
  have e0 : W5 p = some (.inl (0, [.ref (p + 1), .ref (p + 2), .null, .int 0])) := by rw [← hW5, wr_ne (by omega), d0]
  rw [wr_pQ e0 (Nat.le_of_ble_eq_true rfl), Option.bind_some]
  generalize hW6 : mg_set W5 p _ = W6
  have f0 : W6 p = some (.inl (0, [.ref (p + 1), .ref (p + 2), .ref (p + 3), .int 0])) := by rw [← hW6, wr_set]; rfl
  rw [wr_pI f0 (Nat.le_of_ble_eq_true rfl), Option.bind_some]
  generalize hW7 : mg_set W6 p _ = W7
  have k0 : W7 p = some (.inl (0, [.ref (p + 1), .ref (p + 2), .ref (p + 3), .int 0])) := by rw [← hW7, wr_set]; rfl
  have k1 : W7 (p + 1) = some (.inr (0, 236, .inl fun _ => 0)) := by rw [← hW7, wr_ne (by omega), ← hW6, wr_ne (by omega), ← hW5, wr_ne (by omega), ← hW4, wr_ne (by omega), ← hW3, wr_ne (by omega), ← hW2, wr_ne (by omega), ← hW1, wr_set]
  have k2 : W7 (p + 2) = some (.inr (0, 236, .inl fun _ => 0)) := by rw [← hW7, wr_ne (by omega), ← hW6, wr_ne (by omega), ← hW5, wr_ne (by omega), ← hW4, wr_ne (by omega), ← hW3, wr_set]
  have k3 : W7 (p + 3) = some (.inr (0, 9, .inl fun _ => 0)) := by rw [← hW7, wr_ne (by omega), ← hW6, wr_ne (by omega), ← hW5, wr_set]
  have kf : ∀ a, a < p ∨ p + 4 < a → W7 a = w a := fun a q => by rw [← hW7, wr_ne (by omega), ← hW6, wr_ne (by omega), ← hW5, wr_ne (by omega), ← hW4, wr_ne (by omega), ← hW3, wr_ne (by omega), ← hW2, wr_ne (by omega), ← hW1, wr_ne (by omega)]
  have hV : cp_W w p W7 [] [0] 0 (fun _ => false) := by
    refine ⟨fun _ => 0, fun _ => 0, fun _ => 0, fun _ => 0, k0, k1, k2, k3, Or.inl rfl, by simp, by omega, fun k t q => by simp at q, fun k v q => ?_, fun k q => by omega, kf⟩
    match k, q with
    | 0, q => cases q; rfl
    | k + 1, q => simp at q
  obtain ⟨W8, x1, hV8⟩ := cp_join hV (a := 0) (b := 0) (by omega) (by omega) (by simp)
  have x1 : fX0_join p 0 0 W7 = some ((), W8) := x1
  rw [wr_rc k0, x1]
  unfold mg_bS
  rw [Option.bind_some]
  dsimp only
  obtain ⟨W9, x2, hV9⟩ := cp_up hV8 (by simp)
  have hg : ∀ (K : mg_H → Option (Unit × mg_H × Nat × Nat)), (mg_gN W8 0 p 2 fun v5 => (mg_gI W8 0 p 3).bind fun v6 => (mg_stI W8 v5 1 v6).bind K) = K W9 := by
    intro K
    have x2 : (mg_gN W8 0 p 2 fun v5 => (mg_gI W8 0 p 3).bind fun v6 => mg_stI W8 v5 1 v6) = some W9 := x2
    obtain ⟨f, g, u, fh, q0, q1, q2, q3, -⟩ := hV8
    rw [wr_gN q0 rfl, wr_gI q0 rfl, Option.bind_some] at x2 ⊢
    rw [x2, Option.bind_some]
  rw [hg]
  have ho : fX3_ones 8 = some (nI 255) := st_ones 8 (by omega)
  rw [ho, Option.bind_some, wr_naI (by omega)]
  generalize hW10 : mg_set W9 (p + 1 + 1 + 1 + 1) _ = W10
  have hV10 : cp_W w p W10 [(0, 0)] [0, 1] 255 (fun _ => false) := by
    obtain ⟨f, g, u, fh, q0, q1, q2, q3, q4, hT, he, hk, hu, hh, hf⟩ := hV9
    exact ⟨f, g, u, fun _ => 0, by rw [← hW10, wr_ne (by omega)]; exact q0, by rw [← hW10, wr_ne (by omega)]; exact q1, by rw [← hW10, wr_ne (by omega)]; exact q2, by rw [← hW10, wr_ne (by omega)]; exact q3, Or.inr ⟨by rw [← hW10, wr_set], fun k => Or.inl rfl⟩, hT, by omega, hk, hu, fun k _ => rfl, fun a q => by rw [← hW10, wr_ne (by omega)]; exact hf a q⟩
  obtain ⟨w', h', x3, hV11⟩ := cp_nL (p + 1 + 1 + 1 + 1 + 1) 7 mg_N 2 W10 _ _ _ hV10 (by omega) (by omega) rfl (by unfold mg_N; omega) cp_tb
  refine ⟨w', h', ?_, hV11⟩
  have x3 : fX0_init_b61 mg_N p (p + 1 + 1 + 1 + 1) 2 W10 (p + 1 + 1 + 1 + 1 + 1) = some ((), w', 0, 0) := x3
  rw [x3]
  rfl
section KN
variable {z sz n : Nat} {w : mg_H} {A : ws_A} {S : ws_S} {pa : Option Nat}
theorem ct_known2 {p : Nat} (hc : ws_C z w sz n A S kt_L kt_G kt_U (some p)) : fX3_known z w sz = some (some p, w, 0, 0) := by
  obtain ⟨fT, fS, fR, h0, -⟩ := hc
  unfold fX3_known
  rw [wr_gQ (v := some p) h0 rfl, Option.bind_some]
  rfl
theorem ct_known (hc : ws_C z w sz n A S kt_L kt_G kt_U pa) : ∃ p w1 kc ks, fX3_known z w sz = some (some p, w1, kc, ks) ∧ ws_C z w1 (sz + kc) n A S kt_L kt_G kt_U (some p) ∧ ws_Fc z w w1 ∧ ws_Old z sz w w1 ∧ kc ≤ 5 ∧ ks ≤ 740 := by
  cases pa with
  | some p => exact ⟨p, w, 0, 0, ct_known2 hc, hc, fun _ _ _ => rfl, fun _ _ _ => rfl, by omega, by omega⟩
  | none =>
    obtain ⟨fT, fS, fR, h0, h1, h2, h3, hn, hs, hz, hA, hS, hd, hp⟩ := hc
    have lt : ∀ a e, w a = some e → a < sz := fun a e h => by
      rcases Nat.lt_or_ge a sz with q | q
      · exact q
      · rw [hz a q] at h; cases h
    unfold fX3_known
    rw [wr_gQ (v := none) h0 rfl, Option.bind_some]
    unfold mg_if0 mg_nw
    dsimp only
    generalize hW1 : mg_set w sz _ = W1
    have g1 : W1 sz = some (.inl (0, [.null, .null, .null, .int 0])) := by rw [← hW1, wr_set]
    have o1 : ∀ x, x ≠ sz → W1 x = w x := fun x hx => by rw [← hW1, wr_ne hx]
    obtain ⟨W2, h', e2, f, g, u, fh, q0, q1, q2, q3, q4, hT, he, hk, hu, hh, hf⟩ := cp_init g1
    rw [e2]
    unfold mg_bA
    rw [Option.bind_some]
    dsimp only
    have k0 : W2 z = _ := (hf z (by omega)).trans ((o1 z (by omega)).trans h0)
    rw [wr_pQ k0 (Nat.le_of_ble_eq_true rfl), Option.bind_some]
    generalize hW3 : mg_set W2 z _ = W3
    have c0 : W3 z = some (.inl (3, [.ref (z + 1), .ref (z + 2), .ref (z + 3), .int (nI n), va_rf (some sz)])) := by rw [← hW3, wr_set]; rfl
    rw [wr_gQ (v := some sz) c0 rfl, Option.bind_some]
    have kf : ∀ x, x ≠ z → x < sz ∨ sz + 4 < x → W3 x = w x := fun x q1 q2 => by rw [← hW3, wr_ne q1, hf x q2, o1 x (by omega)]
    refine ⟨sz, W3, 5, 740, rfl, ?_, fun x q1 q2 => kf x (by omega) (by omega), fun x q1 q2 => kf x (by omega) (by omega), by omega, by omega⟩
    have hkk : ∀ x, z + 14 ≤ x → (∃ e, w x = some e) → W3 x = w x := fun x q1 ⟨e, q2⟩ => kf x (by omega) (by have := lt x e q2; omega)
    obtain ⟨r1, r2, -⟩ := ws_rest hkk hS hd hp
    refine ⟨fT, fS, fR, c0, by rw [kf _ (by omega) (by omega)]; exact h1, by rw [kf _ (by omega) (by omega)]; exact h2, by rw [kf _ (by omega) (by omega)]; exact h3, hn, by omega, fun x q => by rw [kf x (by omega) (by omega)]; exact hz x (by omega), fun k q => ?_, r1, r2, ?_⟩
    · obtain ⟨b1, x, b2, b3, b4⟩ := hA k q
      exact ⟨b1, x, b2, b3, by rw [hkk x b3 ⟨_, b4⟩]; exact b4⟩
    · intro p hp
      cases hp
      have kk : ∀ x, x ≠ z → W3 x = W2 x := fun x q => by rw [← hW3, wr_ne q]
      refine ⟨hs, ?_, ⟨f, (kk _ (by omega)).trans q1, fun i hi => ?_⟩, ⟨g, (kk _ (by omega)).trans q2, fun i hi => ?_⟩, u, (kk _ (by omega)).trans q3, fun i hi => ?_⟩
      · rw [kk _ (by omega), q0, ctb_len]
      · have hi : i < ctb.length := by rw [ctb_len]; exact hi
        rw [(hk i ctb[i] (List.getElem?_eq_getElem hi)).1, kt_L, List.getD_eq_getElem?_getD, List.getElem?_eq_getElem hi]
        rfl
      · have hi : i < ctb.length := by rw [ctb_len]; exact hi
        rw [(hk i ctb[i] (List.getElem?_eq_getElem hi)).2.1, kt_G, List.getD_eq_getElem?_getD, List.getElem?_eq_getElem hi]
        rfl
      · have hi : i < cub.length := hi
        rw [hu i cub[i] (List.getElem?_eq_getElem hi), kt_U, List.getD_eq_getElem?_getD, List.getElem?_eq_getElem hi]
        rfl
end KN
