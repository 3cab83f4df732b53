/-- the law's script: an array that stands before all that the world holds -/
def mg_X (E : mg_P) (b Ls : Nat) (xs : Nat → Int32) (s : State) : Prop := va_X b Ls xs s s.heap ∧ b < E.2.2
def mg_sc (xs : Nat → Int32) (Ls : Nat) (i : Int32) : Option Int32 := (mg_ix i Ls).map xs
section MGS
variable {ρ : Type} {E : mg_P} {p : Program} {l : Launch} {e : Env} {R : Room} {s : State} {m : MethodId} {args : Array Value} {below : List Frame} {meth : Method} {c : Code} {cc : ByteArray} {nL : Nat} {ret : Option FieldType} {own : String} {out : ρ → mg_R} {F : Option ρ} {w : mg_H} {sz cells slots pc : Nat} {L : List (Nat × Value)} {st : List Value} {b Ls : Nat} {xs : Nat → Int32}
theorem mg_sld (hC : mg_Cx E p s m args meth c cc nL ret own) (hX : mg_X E b Ls xs s) {i : Int32} (hdg : decode cc pc = .ok (.iaload, 1)) {K : Int32 → Option ρ}
    (kk : ∀ v : Int32, mg_sc xs Ls i = some v → mg_G E p l e R s m args below meth c nL out (K v) w sz cells slots (pc + 1) L (.int v :: st)) : mg_G E p l e R s m args below meth c nL out ((mg_sc xs Ls i).bind K) w sz cells slots pc L (.int i :: .ref b :: st) := fun o hf h1 h2 H locs ls hok hl => by
  obtain ⟨v, hv, hf⟩ := Option.bind_eq_some_iff.mp hf
  obtain ⟨k, hk, hv2⟩ := Option.map_eq_some_iff.mp hv
  obtain ⟨hin, rfl⟩ := mg_ix_some hk
  subst hv2
  obtain ⟨⟨scr, g1, g2, g3, g4, g5⟩, hbl⟩ := hX
  have hlt : i.toNatClampNeg < Ls := Nat.not_le.mp fun q => hin (Or.inr q)
  exact W.iald (v := .int (xs i.toNatClampNeg)) hC.1 hC.2.1 (by rw [hok.2.2.2.2.1 b hbl]; exact g1) g2 g3 (by rw [g4]; exact hin) (g5 _ hlt) rfl rfl hdg (kk _ hv o hf h1 h2 H locs ls hok hl)
theorem mg_slen (hC : mg_Cx E p s m args meth c cc nL ret own) (hX : mg_X E b Ls xs s) (hdg : decode cc pc = .ok (.arraylength, 1))
    (kk : mg_G E p l e R s m args below meth c nL out F w sz cells slots (pc + 1) L (.int (Int32.ofNat Ls) :: st)) : mg_G E p l e R s m args below meth c nL out F w sz cells slots pc L (.ref b :: st) := fun o hf h1 h2 H locs ls hok hl => by
  obtain ⟨⟨scr, g1, g2, g3, g4, g5⟩, hbl⟩ := hX
  exact W.alen (n := Int32.ofNat Ls) hC.1 hC.2.1 (by rw [hok.2.2.2.2.1 b hbl]; exact g1) g2 (by rw [g4] <;> rfl) rfl rfl hdg (kk o hf h1 h2 H locs ls hok hl)
end MGS
theorem mg_sw23 {x : Int32} (h0 : ¬ x = 0) (h1 : ¬ x = 1) (h2 : ¬ x = 2) (h3 : ¬ x = 3) (h4 : ¬ x = 4) (h5 : ¬ x = 5) (h6 : ¬ x = 6) (h7 : ¬ x = 7) (h8 : ¬ x = 8) (h9 : ¬ x = 9) (h10 : ¬ x = 10) (h11 : ¬ x = 11) (h12 : ¬ x = 12) (h13 : ¬ x = 13) (h14 : ¬ x = 14) (h15 : ¬ x = 15) (h16 : ¬ x = 16) (h17 : ¬ x = 17) (h18 : ¬ x = 18) (h19 : ¬ x = 19) (h20 : ¬ x = 20) (h21 : ¬ x = 21) (h22 : ¬ x = 22) (h23 : ¬ x = 23) : x.toInt < 0 ∨ 23 < x.toInt := by
  have a0 : ¬ x.toInt = 0 := fun q => h0 ((mg_toI (v := 0) (by decide)).mp q)
  have a1 : ¬ x.toInt = 1 := fun q => h1 ((mg_toI (v := 1) (by decide)).mp q)
  have a2 : ¬ x.toInt = 2 := fun q => h2 ((mg_toI (v := 2) (by decide)).mp q)
  have a3 : ¬ x.toInt = 3 := fun q => h3 ((mg_toI (v := 3) (by decide)).mp q)
  have a4 : ¬ x.toInt = 4 := fun q => h4 ((mg_toI (v := 4) (by decide)).mp q)
  have a5 : ¬ x.toInt = 5 := fun q => h5 ((mg_toI (v := 5) (by decide)).mp q)
  have a6 : ¬ x.toInt = 6 := fun q => h6 ((mg_toI (v := 6) (by decide)).mp q)
  have a7 : ¬ x.toInt = 7 := fun q => h7 ((mg_toI (v := 7) (by decide)).mp q)
  have a8 : ¬ x.toInt = 8 := fun q => h8 ((mg_toI (v := 8) (by decide)).mp q)
  have a9 : ¬ x.toInt = 9 := fun q => h9 ((mg_toI (v := 9) (by decide)).mp q)
  have a10 : ¬ x.toInt = 10 := fun q => h10 ((mg_toI (v := 10) (by decide)).mp q)
  have a11 : ¬ x.toInt = 11 := fun q => h11 ((mg_toI (v := 11) (by decide)).mp q)
  have a12 : ¬ x.toInt = 12 := fun q => h12 ((mg_toI (v := 12) (by decide)).mp q)
  have a13 : ¬ x.toInt = 13 := fun q => h13 ((mg_toI (v := 13) (by decide)).mp q)
  have a14 : ¬ x.toInt = 14 := fun q => h14 ((mg_toI (v := 14) (by decide)).mp q)
  have a15 : ¬ x.toInt = 15 := fun q => h15 ((mg_toI (v := 15) (by decide)).mp q)
  have a16 : ¬ x.toInt = 16 := fun q => h16 ((mg_toI (v := 16) (by decide)).mp q)
  have a17 : ¬ x.toInt = 17 := fun q => h17 ((mg_toI (v := 17) (by decide)).mp q)
  have a18 : ¬ x.toInt = 18 := fun q => h18 ((mg_toI (v := 18) (by decide)).mp q)
  have a19 : ¬ x.toInt = 19 := fun q => h19 ((mg_toI (v := 19) (by decide)).mp q)
  have a20 : ¬ x.toInt = 20 := fun q => h20 ((mg_toI (v := 20) (by decide)).mp q)
  have a21 : ¬ x.toInt = 21 := fun q => h21 ((mg_toI (v := 21) (by decide)).mp q)
  have a22 : ¬ x.toInt = 22 := fun q => h22 ((mg_toI (v := 22) (by decide)).mp q)
  have a23 : ¬ x.toInt = 23 := fun q => h23 ((mg_toI (v := 23) (by decide)).mp q)
  omega
