/-! THE STATE: n ANGLES A 0, A 1, .. (numerator, lower part), SHEETS S 0 .. S 3 (lane, size, cells) -/
abbrev ws_S : Type := Nat → Option (Nat × Nat × (Nat → Int64))
abbrev ws_A : Type := Nat → Nat × Nat
/-- an ANGLE as it is kept: in lowest terms, of a lower part that comes up -/
def ws_ok (q : Nat × Nat) : Prop := q.1 < q.2 ∧ Nat.gcd q.1 q.2 = 1 ∧ nt_G q.2
def ws_turn (q : Nat × Nat) : mg_E := .inl (2, [.int (nI q.1), .int (nI q.2), .int (nI (nt_T q.2)), .int (nI (nt_L q.2))])
def ws_sheet (w : mg_H) (z : Nat) (r : Option Nat) (x : Option (Nat × Nat × (Nat → Int64))) : Prop := match x with
  | none => r = none
  | some y => ∃ a c f, r = some a ∧ z + 14 ≤ a ∧ z + 14 ≤ c ∧ w a = some (.inl (1, [.int (nI y.1), .ref c])) ∧ w c = some (.inr (2, y.2.1, .inr (.inl f))) ∧ y.1 ≤ 1 ∧ y.2.1 ≤ 60 ∧ ∀ i, i < y.2.1 → f i = y.2.2 i
/-- where a SHEET's cells lie -/
def ws_cell (w : mg_H) (r : Option Nat) (c : Nat) : Prop := ∃ a v, r = some a ∧ w a = some (.inl (1, [v, .ref c]))
/-- the PARTNERS' tables, once they are made: an object and three rows; tabL, tabG, tabU say what stands there -/
def ws_part (w : mg_H) (z : Nat) (tabL tabG tabU : Nat → Int32) (r : Option Nat) : Prop := ∀ p, r = some p → z + 14 ≤ p ∧ w p = some (.inl (0, [.ref (p + 1), .ref (p + 2), .ref (p + 3), .int (nI 236)])) ∧ (∃ f, w (p + 1) = some (.inr (0, 236, .inl f)) ∧ ∀ i, i < 236 → f i = tabL i) ∧ (∃ f, w (p + 2) = some (.inr (0, 236, .inl f)) ∧ ∀ i, i < 236 → f i = tabG i) ∧ ∃ f, w (p + 3) = some (.inr (0, 9, .inl f)) ∧ ∀ i, i < 9 → f i = tabU i
/-- the class's side of the world: its object at z, its rows at z + 1 .. z + 3, all else from z + 14 on -/
def ws_C (z : Nat) (w : mg_H) (sz n : Nat) (A : ws_A) (S : ws_S) (tabL tabG tabU : Nat → Int32) (pa : Option Nat) : Prop := ∃ (fT fS : Nat → Option Nat) (fR : Nat → Int32),
  w z = some (.inl (3, [.ref (z + 1), .ref (z + 2), .ref (z + 3), .int (nI n), va_rf pa])) ∧
  w (z + 1) = some (.inr (3, 16, .inr (.inr (.inr (.inr fT))))) ∧ w (z + 2) = some (.inr (4, 4, .inr (.inr (.inr (.inr fS))))) ∧ w (z + 3) = some (.inr (0, 512, .inl fR)) ∧
  n ≤ 16 ∧ z + 14 ≤ sz ∧ (∀ a, sz ≤ a → w a = none) ∧
  (∀ k, k < n → ws_ok (A k) ∧ ∃ a, fT k = some a ∧ z + 14 ≤ a ∧ w a = some (ws_turn (A k))) ∧
  (∀ k, k < 4 → ws_sheet w z (fS k) (S k)) ∧ (∀ i j c, i < 4 → j < 4 → ws_cell w (fS i) c → ws_cell w (fS j) c → i = j) ∧
  ws_part w z tabL tabG tabU pa
/-- the model's side: its object at z + 4, its rows at z + 5 .. z + 13 -/
def ws_M (z : Nat) (w : mg_H) (n : Nat) (A : ws_A) (S : ws_S) (pl : Nat → Int32) (ps pg : Nat → Int64) : Prop := ∃ (ft fd : Nat → Int64) (fh fl fs : Nat → Int32) (fc : Nat → Int64) (gl : Nat → Int32) (gs gg : Nat → Int64),
  w (z + 4) = some (.inl (4, [.int (nI n), .ref (z + 5), .ref (z + 6), .int (nI 236), .ref (z + 7), .ref (z + 8), .ref (z + 9), .ref (z + 10), .ref (z + 11), .ref (z + 12), .ref (z + 13)])) ∧
  w (z + 5) = some (.inr (2, 16, .inr (.inl ft))) ∧ w (z + 6) = some (.inr (2, 16, .inr (.inl fd))) ∧ w (z + 7) = some (.inr (0, 240, .inl gl)) ∧ w (z + 8) = some (.inr (2, 240, .inr (.inl gs))) ∧ w (z + 9) = some (.inr (2, 240, .inr (.inl gg))) ∧ w (z + 10) = some (.inr (1, 256, .inl fh)) ∧ w (z + 11) = some (.inr (0, 4, .inl fl)) ∧ w (z + 12) = some (.inr (0, 4, .inl fs)) ∧ w (z + 13) = some (.inr (2, 240, .inr (.inl fc))) ∧
  n ≤ 16 ∧ (∀ k, k < n → ws_ok (A k) ∧ ft k = lN (A k).1 ∧ fd k = lN (A k).2) ∧
  (∀ k, k < 4 → match S k with | none => fl k = -4 | some y => fl k = nI y.1 ∧ fs k = nI y.2.1 ∧ y.1 ≤ 1 ∧ y.2.1 ≤ 60 ∧ ∀ i, i < y.2.1 → fc (60 * k + i) = y.2.2 i) ∧
  (∀ k, k < 236 → gl k = pl k ∧ gs k = ps k ∧ gg k = pg k)
/-- nothing else has changed -/
def ws_Fc (z : Nat) (w w2 : mg_H) : Prop := ∀ a, z + 4 ≤ a → a < z + 14 → w2 a = w a
def ws_Fm (z : Nat) (w w2 : mg_H) : Prop := ∀ a, ¬ (z + 4 ≤ a ∧ a < z + 14) → w2 a = w a
theorem ws_Mkeep {z n : Nat} {w w2 : mg_H} {A : ws_A} {S : ws_S} {pl : Nat → Int32} {ps pg : Nat → Int64} (hf : ws_Fc z w w2) (h : ws_M z w n A S pl ps pg) : ws_M z w2 n A S pl ps pg := by
  obtain ⟨ft, fd, fh, fl, fs, fc, gl, gs, gg, h4, h5, h6, h7, h8, h9, h10, h11, h12, h13, r⟩ := h
  refine ⟨ft, fd, fh, fl, fs, fc, gl, gs, gg, ?_, ?_, ?_, ?_, ?_, ?_, ?_, ?_, ?_, ?_, r⟩ <;> (rw [hf _ (by omega) (by omega)]; assumption)
theorem ws_sheetK {z : Nat} {w w2 : mg_H} {r : Option Nat} {x : Option (Nat × Nat × (Nat → Int64))} (hk : ∀ a, z + 14 ≤ a → (∃ e, w a = some e) → w2 a = w a) (h : ws_sheet w z r x) : ws_sheet w2 z r x := by
  cases x with
  | none => exact h
  | some y =>
    obtain ⟨a, c, f, h1, h2, h3, h4, h5, h6⟩ := h
    exact ⟨a, c, f, h1, h2, h3, by rw [hk a h2 ⟨_, h4⟩]; exact h4, by rw [hk c h3 ⟨_, h5⟩]; exact h5, h6⟩
theorem ws_partK {z : Nat} {w w2 : mg_H} {tL tG tU : Nat → Int32} {r : Option Nat} (hk : ∀ a, z + 14 ≤ a → (∃ e, w a = some e) → w2 a = w a) (h : ws_part w z tL tG tU r) : ws_part w2 z tL tG tU r := by
  intro p hp
  obtain ⟨h1, h2, ⟨f, h3, h4⟩, ⟨g, h5, h6⟩, e, h7, h8⟩ := h p hp
  exact ⟨h1, by rw [hk _ h1 ⟨_, h2⟩]; exact h2, ⟨f, by rw [hk _ (by omega) ⟨_, h3⟩]; exact h3, h4⟩, ⟨g, by rw [hk _ (by omega) ⟨_, h5⟩]; exact h5, h6⟩, e, by rw [hk _ (by omega) ⟨_, h7⟩]; exact h7, h8⟩
theorem ws_Ckeep {z sz n : Nat} {w w2 : mg_H} {A : ws_A} {S : ws_S} {tL tG tU : Nat → Int32} {pa : Option Nat} (hf : ws_Fm z w w2) (h : ws_C z w sz n A S tL tG tU pa) : ws_C z w2 sz n A S tL tG tU pa := by
  obtain ⟨fT, fS, fR, h0, h1, h2, h3, hn, hs, hz, hA, hS, hd, hp⟩ := h
  have hk : ∀ a, z + 14 ≤ a → (∃ e, w a = some e) → w2 a = w a := fun a q _ => hf a (by omega)
  refine ⟨fT, fS, fR, by rw [hf _ (by omega)]; exact h0, by rw [hf _ (by omega)]; exact h1, by rw [hf _ (by omega)]; exact h2, by rw [hf _ (by omega)]; exact h3, hn, hs, fun a q => by rw [hf _ (by omega)]; exact hz a q, fun k q => ?_, fun k q => ws_sheetK hk (hS k q), fun i j c hi hj g1 g2 => ?_, ws_partK hk hp⟩
  · obtain ⟨b1, a, b2, b3, b4⟩ := hA k q
    exact ⟨b1, a, b2, b3, by rw [hf _ (by omega)]; exact b4⟩
  · have back : ∀ k, k < 4 → ws_cell w2 (fS k) c → ws_cell w (fS k) c := by
      intro k hk4 ⟨a, v, e1, e2⟩
      have := hS k hk4
      cases hSk : S k with
      | none => rw [hSk] at this; rw [show fS k = none from this] at e1; cases e1
      | some y =>
        rw [hSk] at this
        obtain ⟨a', c', f, g1, g2, g3, g4, -⟩ := this
        cases g1.symm.trans e1
        rw [hf _ (by omega)] at e2
        exact ⟨a, v, e1, e2⟩
    exact hd i j c hi hj (back i hi g1) (back j hj g2)
