/-! the two objects are MADE -/
theorem wr_bmp2 {α : Type} {a b c d : Nat} (x : Option (α × mg_H × Nat × Nat)) : mg_bmp a b (mg_bmp c d x) = mg_bmp (a + c) (b + d) x := by
  cases x with
  | none => rfl
  | some o => simp [mg_bmp, Nat.add_assoc]
def in_W (c : Nat) (w0 W : mg_H) (o m : Nat) (fs : List Value) (g : Nat → Option mg_E) : Prop := W o = some (.inl (c, fs)) ∧ (∀ k, k < m → W (o + 1 + k) = g k) ∧ ∀ a, a ≠ o → ¬ (o < a ∧ a < o + 1 + m) → W a = w0 a
theorem in_step {c : Nat} {w0 W : mg_H} {o m k : Nat} {fs : List Value} {g : Nat → Option mg_E} (h : in_W c w0 W o m fs g) (e : mg_E) (hk : k < fs.length) : ∃ W', mg_pQ (mg_set W (o + 1 + m) e) c o k (some (o + 1 + m)) = some W' ∧ in_W c w0 W' o (m + 1) (fs.set k (.ref (o + 1 + m))) (fun i => if i = m then some e else g i) := by
  obtain ⟨h1, h2, h3⟩ := h
  have a1 : mg_set W (o + 1 + m) e o = some (.inl (c, fs)) := by rw [wr_ne (by omega)]; exact h1
  refine ⟨_, wr_pQ a1 hk, wr_set _ _ _, fun i hi => ?_, fun a q1 q2 => ?_⟩
  · rw [wr_ne (by omega)]
    show _ = if i = m then some e else g i
    by_cases y : i = m
    · subst y; rw [wr_set, if_pos rfl]
    · rw [wr_ne (by omega), if_neg y, h2 i (by omega)]
  · rw [wr_ne q1, wr_ne (by omega), h3 a q1 (by omega)]
theorem in_Q {β : Type} {c : Nat} {w0 W : mg_H} {o m k n s kd : Nat} {fs : List Value} {g : Nat → Option mg_E} (h : in_W c w0 W o m fs g) (hs : s = o + 1 + m) (hk : k < fs.length) (hn : n ≤ 67108864) (K : mg_H → Option (β × mg_H × Nat × Nat)) : ∃ W', (mg_naQ W s kd (nI n) fun w1 => (mg_pQ w1 c o k (some s)).bind K) = mg_bmp 1 n (K W') ∧ in_W c w0 W' o (m + 1) (fs.set k (.ref s)) (fun i => if i = m then some (.inr (kd, n, .inr (.inr (.inr (.inr fun _ => none))))) else g i) := by
  subst hs
  obtain ⟨W', e1, e2⟩ := in_step h (.inr (kd, n, .inr (.inr (.inr (.inr fun _ => none))))) hk
  refine ⟨W', ?_, e2⟩
  rw [wr_naQ hn, e1, Option.bind_some]
theorem in_I {β : Type} {c : Nat} {w0 W : mg_H} {o m k n s kd : Nat} {fs : List Value} {g : Nat → Option mg_E} (h : in_W c w0 W o m fs g) (hs : s = o + 1 + m) (hk : k < fs.length) (hn : n ≤ 67108864) (K : mg_H → Option (β × mg_H × Nat × Nat)) : ∃ W', (mg_naI W s kd (nI n) fun w1 => (mg_pQ w1 c o k (some s)).bind K) = mg_bmp 1 n (K W') ∧ in_W c w0 W' o (m + 1) (fs.set k (.ref s)) (fun i => if i = m then some (.inr (kd, n, .inl fun _ => 0)) else g i) := by
  subst hs
  obtain ⟨W', e1, e2⟩ := in_step h (.inr (kd, n, .inl fun _ => 0)) hk
  refine ⟨W', ?_, e2⟩
  rw [wr_naI hn, e1, Option.bind_some]
theorem in_L {β : Type} {c : Nat} {w0 W : mg_H} {o m k n s : Nat} {fs : List Value} {g : Nat → Option mg_E} (h : in_W c w0 W o m fs g) (hs : s = o + 1 + m) (hk : k < fs.length) (hn : n ≤ 67108864) (K : mg_H → Option (β × mg_H × Nat × Nat)) : ∃ W', (mg_naL W s (nI n) fun w1 => (mg_pQ w1 c o k (some s)).bind K) = mg_bmp 1 n (K W') ∧ in_W c w0 W' o (m + 1) (fs.set k (.ref s)) (fun i => if i = m then some (.inr (2, n, .inr (.inl fun _ => 0))) else g i) := by
  subst hs
  obtain ⟨W', e1, e2⟩ := in_step h (.inr (2, n, .inr (.inl fun _ => 0))) hk
  refine ⟨W', ?_, e2⟩
  rw [wr_naL hn, e1, Option.bind_some]
theorem ct_init {w0 W : mg_H} {z : Nat} (h : in_W 3 w0 W z 0 [.null, .null, .null, .int 0, .null] (fun _ => none)) : ∃ W', fX3_init z W (z + 1) = some ((), W', 3, 532) ∧ W' z = some (.inl (3, [.ref (z + 1), .ref (z + 2), .ref (z + 3), .int (nI 0), va_rf none])) ∧ W' (z + 1) = some (.inr (3, 16, .inr (.inr (.inr (.inr fun _ => none))))) ∧ W' (z + 2) = some (.inr (4, 4, .inr (.inr (.inr (.inr fun _ => none))))) ∧ W' (z + 3) = some (.inr (0, 512, .inl fun _ => 0)) ∧ ∀ a, ¬ (z ≤ a ∧ a < z + 4) → W' a = w0 a := by
  unfold fX3_init
  simp only [Nat.add_assoc, Nat.reduceAdd]
  obtain ⟨W1, e1, h1⟩ := in_Q (kd := 3) (n := 16) (k := 0) (s := z + 1) h rfl (Nat.le_of_ble_eq_true rfl) (by omega) (fun w2 => mg_naQ w2 (z + 2) 4 (4 : Int32) fun w3 => (mg_pQ w3 3 z 1 (some (z + 2))).bind fun w4 => mg_naI w4 (z + 3) 0 (512 : Int32) fun w5 => (mg_pQ w5 3 z 2 (some (z + 3))).bind fun w6 => (mg_pI w6 3 z 3 (0 : Int32)).bind fun w7 => (mg_pQ w7 3 z 4 none).bind fun w8 => some ((), w8, 0, 0))
  rw [show nI 16 = (16 : Int32) from rfl] at e1
  rw [e1]
  obtain ⟨W2, e2, h2⟩ := in_Q (kd := 4) (n := 4) (k := 1) (s := z + 2) h1 rfl (Nat.le_of_ble_eq_true rfl) (by omega) (fun w4 => mg_naI w4 (z + 3) 0 (512 : Int32) fun w5 => (mg_pQ w5 3 z 2 (some (z + 3))).bind fun w6 => (mg_pI w6 3 z 3 (0 : Int32)).bind fun w7 => (mg_pQ w7 3 z 4 none).bind fun w8 => some ((), w8, 0, 0))
  rw [show nI 4 = (4 : Int32) from rfl] at e2
  rw [e2]
  obtain ⟨W3, e3, h3⟩ := in_I (kd := 0) (n := 512) (k := 2) (s := z + 3) h2 rfl (Nat.le_of_ble_eq_true rfl) (by omega) (fun w6 => (mg_pI w6 3 z 3 (0 : Int32)).bind fun w7 => (mg_pQ w7 3 z 4 none).bind fun w8 => some ((), w8, 0, 0))
  rw [show nI 512 = (512 : Int32) from rfl] at e3
  rw [e3]
  obtain ⟨g0, g1, g2⟩ := h3
  have g0 : W3 z = some (.inl (3, [.ref (z + 1), .ref (z + 2), .ref (z + 3), .int 0, .null])) := g0
  rw [wr_pI g0 (Nat.le_of_ble_eq_true rfl), Option.bind_some]
  generalize hW4 : mg_set W3 z _ = W4
  have b0 : W4 z = some (.inl (3, [.ref (z + 1), .ref (z + 2), .ref (z + 3), .int 0, .null])) := by rw [← hW4, wr_set]; rfl
  rw [wr_pQ b0 (Nat.le_of_ble_eq_true rfl), Option.bind_some]
  generalize hW5 : mg_set W4 z _ = W5
  refine ⟨W5, rfl, ?_, ?_, ?_, ?_, fun a ha => ?_⟩
  · rw [← hW5, wr_set]; rfl
  · rw [← hW5, wr_ne (by omega), ← hW4, wr_ne (by omega)]; exact g1 0 (by omega)
  · rw [← hW5, wr_ne (by omega), ← hW4, wr_ne (by omega)]; exact g1 1 (by omega)
  · rw [← hW5, wr_ne (by omega), ← hW4, wr_ne (by omega)]; exact g1 2 (by omega)
  · rw [← hW5, wr_ne (by omega), ← hW4, wr_ne (by omega), g2 a (by omega) (by omega)]
theorem in_lan {z : Nat} {fs : List Value} (h8 : fs[8]? = some (.ref (z + 11))) (s : Nat) : ∀ d N i W fl, W (z + 4) = some (.inl (4, fs)) → W (z + 11) = some (.inr (0, 4, .inl fl)) → i + d = 4 → d < N → (∀ k, k < i → fl k = -4) → ∃ W' fl', fX4_init_b81 N (z + 4) (nI i) W s = fX4_init_b100 (z + 4) W' s ∧ W' (z + 11) = some (.inr (0, 4, .inl fl')) ∧ (∀ k, k < 4 → fl' k = -4) ∧ ∀ x, x ≠ z + 11 → W' x = W x := by
  intro d
  induction d with
  | zero =>
    intro N i W fl h0 h1 e1 e2 hf
    obtain ⟨N, rfl⟩ : ∃ m, N = m + 1 := ⟨N - 1, by omega⟩
    obtain rfl : i = 4 := by omega
    rw [fX4_init_b81, if_pos (by exact nI_le (a := 4) (b := 4) (by omega) (by omega))]
    exact ⟨W, fl, rfl, h1, hf, fun _ _ => rfl⟩
  | succ d ih =>
    intro N i W fl h0 h1 e1 e2 hf
    obtain ⟨N, rfl⟩ : ∃ m, N = m + 1 := ⟨N - 1, by omega⟩
    rw [fX4_init_b81, if_neg (by exact nI_ge (a := i) (b := 4) (by omega) (by omega)), wr_gN h0 h8, wr_stI h1 (by omega) (by omega), Option.bind_some, show nI i + 1 = nI (i + 1) from nI_1 i]
    obtain ⟨W', fl', q1, q2, q3, q4⟩ := ih N (i + 1) (mg_set W (z + 11) (.inr (0, 4, .inl (upd fl i (-4))))) (upd fl i (-4)) (by rw [wr_ne (by omega)]; exact h0) (wr_set _ _ _) (by omega) (by omega) (fun k hk => by
      by_cases y : k = i
      · subst y; simp [upd]
      · simp only [upd, if_neg y]; exact hf k (by omega))
    exact ⟨W', fl', q1, q2, q3, fun x hx => by rw [q4 x hx, wr_ne hx]⟩
