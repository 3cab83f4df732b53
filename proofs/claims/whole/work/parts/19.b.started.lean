def in_N (c : Nat) (W : mg_H) (o s k : Nat) (fs : List Value) (e : mg_E) : mg_H := mg_set (mg_set W s e) o (.inl (c, fs.set k (.ref s)))
theorem in_NW {c : Nat} {w0 W : mg_H} {o m k s : Nat} {fs : List Value} {g : Nat → Option mg_E} (h : in_W c w0 W o m fs g) (hs : s = o + 1 + m) (e : mg_E) : in_W c w0 (in_N c W o s k fs e) o (m + 1) (fs.set k (.ref s)) (fun i => if i = m then some e else g i) := by
  subst hs
  obtain ⟨h1, h2, h3⟩ := h
  unfold in_N
  refine ⟨wr_set _ _ _, fun i hi => ?_, fun a q1 q2 => ?_⟩
  · rw [wr_ne (by omega)]
    show _ = if i = m then some e else g i
    by_cases y : i = m
    · subst y; rw [wr_set, if_pos rfl]
    · rw [wr_ne (by omega), if_neg y, h2 i (by omega)]
  · rw [wr_ne q1, wr_ne (by omega), h3 a q1 (by omega)]
theorem in_I' {β : Type} {c : Nat} {w0 W : mg_H} {o m k n s kd : Nat} {fs : List Value} {g : Nat → Option mg_E} (h : in_W c w0 W o m fs g) (hs : s = o + 1 + m) (hk : k < fs.length) (hn : n ≤ 67108864) {K : mg_H → Option (β × mg_H × Nat × Nat)} : (mg_naI W s kd (nI n) fun w1 => (mg_pQ w1 c o k (some s)).bind K) = mg_bmp 1 n (K (in_N c W o s k fs (.inr (kd, n, .inl fun _ => 0)))) := by
  have a1 : mg_set W s (.inr (kd, n, .inl fun _ => 0)) o = some (.inl (c, fs)) := by rw [wr_ne (by omega)]; exact h.1
  rw [wr_naI hn, wr_pQ a1 hk, Option.bind_some]
  rfl
theorem in_L' {β : Type} {c : Nat} {w0 W : mg_H} {o m k n s : Nat} {fs : List Value} {g : Nat → Option mg_E} (h : in_W c w0 W o m fs g) (hs : s = o + 1 + m) (hk : k < fs.length) (hn : n ≤ 67108864) {K : mg_H → Option (β × mg_H × Nat × Nat)} : (mg_naL W s (nI n) fun w1 => (mg_pQ w1 c o k (some s)).bind K) = mg_bmp 1 n (K (in_N c W o s k fs (.inr (2, n, .inr (.inl fun _ => 0))))) := by
  have a1 : mg_set W s (.inr (2, n, .inr (.inl fun _ => 0))) o = some (.inl (c, fs)) := by rw [wr_ne (by omega)]; exact h.1
  rw [wr_naL hn, wr_pQ a1 hk, Option.bind_some]
  rfl
theorem mt_init {w0 W : mg_H} {z : Nat} (h : in_W 4 w0 W (z + 4) 0 [.int 0, .null, .null, .int 0, .null, .null, .null, .null, .null, .null, .null] (fun _ => none)) : ∃ W', fX4_init (z + 4) W (z + 5) = some ((), W', 9, 1256) ∧ ws_M z W' 0 (fun _ => (0, 1)) (fun _ => none) km_l km_s km_g ∧ ∀ a, ¬ (z + 4 ≤ a ∧ a < z + 14) → W' a = w0 a := by
  unfold fX4_init
  simp only [Nat.add_assoc, Nat.reduceAdd]
  rw [show (16 : Int32) = nI 16 from rfl, show (240 : Int32) = nI 240 from rfl, show (256 : Int32) = nI 256 from rfl, show (4 : Int32) = nI 4 from rfl]
  rw [in_L' (s := z + 5) h rfl (Nat.le_of_ble_eq_true rfl) (by omega)]
  have h := in_NW (s := z + 5) (k := 1) h rfl (.inr (2, 16, .inr (.inl fun _ => 0)))
  generalize in_N 4 W (z + 4) _ _ _ _ = W1 at h ⊢
  rw [in_L' (s := z + 6) h rfl (Nat.le_of_ble_eq_true rfl) (by omega)]
  have h := in_NW (s := z + 6) (k := 2) h rfl (.inr (2, 16, .inr (.inl fun _ => 0)))
  generalize in_N 4 W1 (z + 4) _ _ _ _ = W2 at h ⊢
  rw [in_I' (s := z + 7) h rfl (Nat.le_of_ble_eq_true rfl) (by omega)]
  have h := in_NW (s := z + 7) (k := 4) h rfl (.inr (0, 240, .inl fun _ => 0))
  generalize in_N 4 W2 (z + 4) _ _ _ _ = W3 at h ⊢
  rw [in_L' (s := z + 8) h rfl (Nat.le_of_ble_eq_true rfl) (by omega)]
  have h := in_NW (s := z + 8) (k := 5) h rfl (.inr (2, 240, .inr (.inl fun _ => 0)))
  generalize in_N 4 W3 (z + 4) _ _ _ _ = W4 at h ⊢
  rw [in_L' (s := z + 9) h rfl (Nat.le_of_ble_eq_true rfl) (by omega)]
  have h := in_NW (s := z + 9) (k := 6) h rfl (.inr (2, 240, .inr (.inl fun _ => 0)))
  generalize in_N 4 W4 (z + 4) _ _ _ _ = W5 at h ⊢
  rw [in_I' (s := z + 10) h rfl (Nat.le_of_ble_eq_true rfl) (by omega)]
  have h := in_NW (s := z + 10) (k := 7) h rfl (.inr (1, 256, .inl fun _ => 0))
  generalize in_N 4 W5 (z + 4) _ _ _ _ = W6 at h ⊢
  rw [in_I' (s := z + 11) h rfl (Nat.le_of_ble_eq_true rfl) (by omega)]
  have h := in_NW (s := z + 11) (k := 8) h rfl (.inr (0, 4, .inl fun _ => 0))
  generalize in_N 4 W6 (z + 4) _ _ _ _ = W7 at h ⊢
  rw [in_I' (s := z + 12) h rfl (Nat.le_of_ble_eq_true rfl) (by omega)]
  have h := in_NW (s := z + 12) (k := 9) h rfl (.inr (0, 4, .inl fun _ => 0))
  generalize in_N 4 W7 (z + 4) _ _ _ _ = W8 at h ⊢
  rw [in_L' (s := z + 13) h rfl (Nat.le_of_ble_eq_true rfl) (by omega)]
  have h := in_NW (s := z + 13) (k := 10) h rfl (.inr (2, 240, .inr (.inl fun _ => 0)))
  generalize in_N 4 W8 (z + 4) _ _ _ _ = W9 at h ⊢
  obtain ⟨g0, g1, g2⟩ := h
  have g0 : W9 (z + 4) = some (.inl (4, [.int (nI 0), .ref (z + 5), .ref (z + 6), .int (nI 0), .ref (z + 7), .ref (z + 8), .ref (z + 9), .ref (z + 10), .ref (z + 11), .ref (z + 12), .ref (z + 13)])) := g0
  have k5 : W9 (z + 5) = some (.inr (2, 16, .inr (.inl fun _ => 0))) := g1 0 (by omega)
  have k6 : W9 (z + 6) = some (.inr (2, 16, .inr (.inl fun _ => 0))) := g1 1 (by omega)
  have k7 : W9 (z + 7) = some (.inr (0, 240, .inl fun _ => 0)) := g1 2 (by omega)
  have k8 : W9 (z + 8) = some (.inr (2, 240, .inr (.inl fun _ => 0))) := g1 3 (by omega)
  have k9 : W9 (z + 9) = some (.inr (2, 240, .inr (.inl fun _ => 0))) := g1 4 (by omega)
  have k10 : W9 (z + 10) = some (.inr (1, 256, .inl fun _ => 0)) := g1 5 (by omega)
  have k11 : W9 (z + 11) = some (.inr (0, 4, .inl fun _ => 0)) := g1 6 (by omega)
  have k12 : W9 (z + 12) = some (.inr (0, 4, .inl fun _ => 0)) := g1 7 (by omega)
  have k13 : W9 (z + 13) = some (.inr (2, 240, .inr (.inl fun _ => 0))) := g1 8 (by omega)
  obtain ⟨Wl, fl, e1, e2, e3, e4⟩ := in_lan (fs := [.int (nI 0), .ref (z + 5), .ref (z + 6), .int (nI 0), .ref (z + 7), .ref (z + 8), .ref (z + 9), .ref (z + 10), .ref (z + 11), .ref (z + 12), .ref (z + 13)]) rfl (z + 14) 4 mg_N 0 W9 _ g0 k11 (by omega) (by unfold mg_N; omega) (fun k hk => by omega)
  have m4 := (e4 (z + 4) (by omega)).trans g0
  have hV : fp_W Wl z Wl [] (fun _ => false) := ⟨fun _ => 0, fun _ => 0, fun _ => 0, fun _ => 0, m4, (e4 _ (by omega)).trans k7, (e4 _ (by omega)).trans k8, (e4 _ (by omega)).trans k9, (e4 _ (by omega)).trans k10, Nat.zero_le _, fun k t q => by simp at q, fun k _ => rfl, fun _ _ _ _ _ _ => rfl⟩
  obtain ⟨W', h', x1, gl, gs, gg, fh, y4, y7, y8, y9, y10, -, hT, -, hf⟩ := fp_find hV
  rw [show nI 0 = (0 : Int32) from nI_0] at e1
  rw [e1, fX4_init_b100, wr_rc m4, x1, wr_bS]
  refine ⟨W', rfl, ?_, fun a ha => ?_⟩
  · rw [tb_len] at y4
    refine ⟨fun _ => 0, fun _ => 0, fh, fl, fun _ => 0, fun _ => 0, gl, gs, gg, y4, ?_, ?_, y7, y8, y9, y10, ?_, ?_, ?_, by omega, fun k hk => by omega, fun k hk => e3 k hk, fun k hk => ?_⟩
    · rw [hf _ (by omega) (by omega) (by omega) (by omega) (by omega), e4 _ (by omega)]; exact k5
    · rw [hf _ (by omega) (by omega) (by omega) (by omega) (by omega), e4 _ (by omega)]; exact k6
    · rw [hf _ (by omega) (by omega) (by omega) (by omega) (by omega)]; exact e2
    · rw [hf _ (by omega) (by omega) (by omega) (by omega) (by omega), e4 _ (by omega)]; exact k12
    · rw [hf _ (by omega) (by omega) (by omega) (by omega) (by omega), e4 _ (by omega)]; exact k13
    · have hk2 : k < tb.length := by rw [tb_len]; exact hk
      have hg : tb.getD k (0, 0, 0) = tb[k] := by rw [List.getD_eq_getElem?_getD, List.getElem?_eq_getElem hk2]; rfl
      obtain ⟨t1, t2, t3, -⟩ := hT k tb[k] (List.getElem?_eq_getElem hk2)
      unfold km_l km_s km_g
      rw [hg]
      exact ⟨t1, t2, t3⟩
  · rw [hf a (by omega) (by omega) (by omega) (by omega) (by omega), e4 a (by omega), g2 a (by omega) (by omega)]
theorem law_start (xs : Nat → Int32) (Ls z : Nat) : ∃ W, fL_law xs Ls (fun _ => none) z = mg_bmp 14 1804 (fL_law_b18 xs Ls mg_N z (z + 4) 0 W (z + 14)) ∧ ws_C z W (z + 14) 0 (fun _ => (0, 1)) (fun _ => none) kt_L kt_G kt_U none ∧ ws_M z W 0 (fun _ => (0, 1)) (fun _ => none) km_l km_s km_g := by
  unfold fL_law mg_nw
  dsimp only
  obtain ⟨W1, e1, c0, c1, c2, c3, cf⟩ := ct_init (w0 := fun _ => none) (W := mg_set (fun _ => none) z (.inl (3, [.null, .null, .null, .int 0, .null]))) (z := z) ⟨wr_set _ _ _, fun k hk => by omega, fun a q1 _ => wr_ne q1⟩
  rw [e1, wr_bA]
  simp only [Nat.add_assoc, Nat.reduceAdd]
  obtain ⟨W2, e2, hm, mf⟩ := mt_init (w0 := W1) (W := mg_set W1 (z + 4) (.inl (4, [.int 0, .null, .null, .int 0, .null, .null, .null, .null, .null, .null, .null]))) (z := z) ⟨wr_set _ _ _, fun k hk => by omega, fun a q1 _ => wr_ne q1⟩
  rw [e2, wr_bA, wr_bmp2, wr_bmp2, wr_bmp2]
  refine ⟨W2, rfl, ?_, hm⟩
  refine ⟨fun _ => none, fun _ => none, fun _ => 0, ?_, ?_, ?_, ?_, by omega, by omega, fun a ha => ?_, fun k hk => by omega, fun k _ => rfl, fun i j c _ _ q => ?_, fun p q => by cases q⟩
  · rw [mf _ (by omega)]; exact c0
  · rw [mf _ (by omega)]; exact c1
  · rw [mf _ (by omega)]; exact c2
  · rw [mf _ (by omega)]; exact c3
  · rw [mf _ (by omega), cf _ (by omega)]
  · obtain ⟨a, v, e, -⟩ := q
    cases e
