section MGH
variable {ρ : Type} {E : mg_P} {p : Program} {l : Launch} {e : Env} {R : Room} {s : State} {m : MethodId} {args : Array Value} {below : List Frame} {meth : Method} {c : Code} {cc : ByteArray} {nL : Nat} {ret : Option FieldType} {own : String} {out : ρ → mg_R} {F : Option ρ} {w : mg_H} {sz cells slots pc : Nat} {L : List (Nat × Value)} {st : List Value}
theorem mg_P1 {w : mg_H} {H : Heap} {a : Nat} {x : mg_E} (h : mg_Hd E w H) (ha : w a = some x) : va_P E.1 vwCl [(a, mg_to E.2.1 x)] H := by
  intro k q hk
  match k, hk with
  | 0, hk => cases hk; exact (h a x ha).1
  | k + 1, hk => simp at hk
theorem mg_getI (hC : mg_Cx E p s m args meth c cc nL ret own) {C : String} {T : u_T} {N ci k idx a : Nat} (hin : ∀ x ∈ u_ws C T N, x ∈ mg_ws) (hc : vwCl[ci]? = some (C, T, N)) (hk : k < N) (hlink : Cond.fieldLink own idx (T k).1 (T k).2.1 (T k).2.2.1 ∈ mg_ws) (hdg : decode cc pc = .ok (.getfield idx, 3)) {K : Int32 → Option ρ}
    (kk : ∀ v : Int32, mg_gI w ci a k = some v → mg_G E p l e R s m args below meth c nL out (K v) w sz cells slots (pc + 3) L (.int v :: st)) : mg_G E p l e R s m args below meth c nL out ((mg_gI w ci a k).bind K) w sz cells slots pc L (.ref a :: st) := fun o hf h1 h2 H locs ls hok hl => by
  obtain ⟨v, hv, hf⟩ := Option.bind_eq_some_iff.mp hf
  obtain ⟨fs, ha, hfs⟩ := mg_gI_some hv
  exact va_get (D := E.1) (cl := vwCl) hC.1 hC.2.1 hC.2.2.2.2.1 hin hC.2.2.2.1 hC.2.2.2.2.2.1.1 (mg_P1 hok.2.1 ha) 0 rfl hc k hk (hC.2.2.2.2.1 _ hlink) (fun _ h => h) hfs hdg (kk v hv o hf h1 h2 H locs ls hok hl)
theorem mg_getQ (hC : mg_Cx E p s m args meth c cc nL ret own) {C : String} {T : u_T} {N ci k idx a : Nat} (hin : ∀ x ∈ u_ws C T N, x ∈ mg_ws) (hc : vwCl[ci]? = some (C, T, N)) (hk : k < N) (hlink : Cond.fieldLink own idx (T k).1 (T k).2.1 (T k).2.2.1 ∈ mg_ws) (hdg : decode cc pc = .ok (.getfield idx, 3)) {K : Option Nat → Option ρ}
    (kk : ∀ v : Option Nat, mg_gQ w ci a k = some v → mg_G E p l e R s m args below meth c nL out (K v) w sz cells slots (pc + 3) L (va_rf v :: st)) : mg_G E p l e R s m args below meth c nL out ((mg_gQ w ci a k).bind K) w sz cells slots pc L (.ref a :: st) := fun o hf h1 h2 H locs ls hok hl => by
  obtain ⟨v, hv, hf⟩ := Option.bind_eq_some_iff.mp hf
  obtain ⟨fs, ha, hfs⟩ := mg_gQ_some hv
  exact va_get (D := E.1) (cl := vwCl) hC.1 hC.2.1 hC.2.2.2.2.1 hin hC.2.2.2.1 hC.2.2.2.2.2.1.1 (mg_P1 hok.2.1 ha) 0 rfl hc k hk (hC.2.2.2.2.1 _ hlink) (fun _ h => h) hfs hdg (kk v hv o hf h1 h2 H locs ls hok hl)
/-- a reference that isn't null is read -/
theorem mg_getN (hC : mg_Cx E p s m args meth c cc nL ret own) {C : String} {T : u_T} {N ci k idx a : Nat} (hin : ∀ x ∈ u_ws C T N, x ∈ mg_ws) (hc : vwCl[ci]? = some (C, T, N)) (hk : k < N) (hlink : Cond.fieldLink own idx (T k).1 (T k).2.1 (T k).2.2.1 ∈ mg_ws) (hdg : decode cc pc = .ok (.getfield idx, 3)) {K : Nat → Option ρ}
    (kk : ∀ v : Nat, mg_gQ w ci a k = some (some v) → mg_G E p l e R s m args below meth c nL out (K v) w sz cells slots (pc + 3) L (.ref v :: st)) : mg_G E p l e R s m args below meth c nL out ((mg_gQ w ci a k).bind fun r => mg_nn r K) w sz cells slots pc L (.ref a :: st) :=
  mg_getQ hC hin hc hk hlink hdg (fun v hv => mg_deref (fun b hb => by subst hb; exact kk b hv))
theorem mg_putW (hC : mg_Cx E p s m args meth c cc nL ret own) {C : String} {T : u_T} {N ci k idx a : Nat} (hin : ∀ x ∈ u_ws C T N, x ∈ mg_ws) (hc : vwCl[ci]? = some (C, T, N)) (hk : k < N) (ty0 : Nat → FieldType) (hty : ∀ k, k < N → parseFieldDescriptor (T k).2.2.1 = some (ty0 k)) (hnm : ∀ a, a < N → ∀ b, b < N → a ≠ b → (T a).2.1 ≠ (T b).2.1) (hlink : Cond.fieldLink own idx (T k).1 (T k).2.1 (T k).2.2.1 ∈ mg_ws) (hdg : decode cc pc = .ok (.putfield idx, 3)) {v : Value} (hfin : (T k).2.2.2 = false ∨ ((T k).2.2.2 = true ∧ meth.name = "<init>" ∧ (T k).1 = own)) (hn : narrow (ty0 k) v = v) (hfit : fits (ty0 k) v = true) {fs : List Value} (ha : w a = some (.inl (ci, fs))) (hlf : k < fs.length) {Q : State → Prop}
    {H : Heap} {locs : List Loc} {ls : Array Slot} (hok : mg_Ok E w sz s H locs)
    (kk : ∀ (H1 : Heap) (locs1 : List Loc), mg_Ok E (mg_set w a (.inl (ci, fs.set k v))) sz s H1 locs1 → W p l e R s m args below meth c H1 locs1 cells slots Q (F0 m (pc + 3) ls st)) : W p l e R s m args below meth c H locs cells slots Q (F0 m pc ls (v :: .ref a :: st)) := by
  have hts := hC.2.2.2.2.1
  have hK := hC.2.2.2.2.2.1.1
  have hown := hC.2.2.2.1
  have hap := va_apart (own := own) hts hin ty0 hty hnm hK hc
  obtain ⟨r, h1, cell, q1, q2, q3, q4⟩ := (hok.2.1 a _ ha).1
  have hr : r = (C, T, N) := Option.some.inj (h1.symm.trans hc)
  subst hr
  obtain ⟨hS, hfc, kC, hkC, hkind⟩ := hK.1 ci _ hc
  obtain ⟨cf, kf, fi, f, hi, hsl⟩ := hS k hk
  have hlay := hts _ (hin _ (u_in_lay hk))
  have hst := (u_facts hfc hkC (u_lays hts hin hk) hi).1
  have last : ∀ H' : Heap, H'[a]? = some (cell.setSlot (E.1.2 ci k) v) → H'.size = H.size → (∀ q : Nat, q ≠ a → H'[q]? = H[q]?) → mg_Ok E (mg_set w a (.inl (ci, fs.set k v))) sz s H' (locs ++ [⟨a, E.1.2 ci k⟩]) := fun H' e1 e2 e3 =>
    hok.put ha e2 e3 ⟨_, hc, t_OB.to (V := updV (vp_V fs) k v) ⟨_, e1, q2, q3, t_set q4 hap hk v⟩ (fun j _ => vp_updV_set hlf v j)⟩
  rcases hfin with hfin | ⟨hfin, hin2, hdecl⟩
  · unfold u_lay at hlay
    rw [if_neg (by rw [hfin]; decide)] at hlay
    have h6 := u_store hfc hkC hkind hlay hi (hty k hk) hn hfit
    refine W.putK hC.1 hC.2.1 (f := f) ⟨hown, hts _ hlink, ⟨_, _, _, hi⟩, hst⟩ (by rw [q2]; exact h6) q1 q3 (by rw [hsl]; exact k2_hasslot (q4 k hk)) rfl rfl hdg fun H' e1 e2 e3 => ?_
    rw [hsl] at e1 ⊢
    exact kk H' _ (last H' e1 e2 e3)
  · unfold u_lay at hlay
    rw [if_pos hfin] at hlay
    have hcf : m.cls = cf := by
      obtain ⟨_, _, c', _, _, _, -, -, hf', -, -, -, hown2, -⟩ := Cond.laysFinal_spec hlay
      have e1 : c' = cf := by have := hi.symm.trans hf'; simp at this; exact this.1.symm
      rw [hdecl] at hown2
      rw [← e1]; exact Option.some.inj (hown.symm.trans hown2)
    have h6 := u_fits hfc hkC hkind (Or.inr hlay) hi (hty k hk) hn hfit
    refine W.putFinK hC.1 hC.2.1 hown (hts _ hlink) hi hst hcf hin2 (by rw [q2]; exact h6) q1 q3 (by rw [hsl]; exact k2_hasslot (q4 k hk)) rfl rfl hdg fun H' e1 e2 e3 => ?_
    rw [hsl] at e1 ⊢
    exact kk H' _ (last H' e1 e2 e3)
theorem mg_putI (hC : mg_Cx E p s m args meth c cc nL ret own) {C : String} {T : u_T} {N ci k idx a : Nat} (hin : ∀ x ∈ u_ws C T N, x ∈ mg_ws) (hc : vwCl[ci]? = some (C, T, N)) (hk : k < N) (ty0 : Nat → FieldType) (hty : ∀ k, k < N → parseFieldDescriptor (T k).2.2.1 = some (ty0 k)) (hnm : ∀ a, a < N → ∀ b, b < N → a ≠ b → (T a).2.1 ≠ (T b).2.1) (hlink : Cond.fieldLink own idx (T k).1 (T k).2.1 (T k).2.2.1 ∈ mg_ws) (hdg : decode cc pc = .ok (.putfield idx, 3)) {v : Int32} (hfin : (T k).2.2.2 = false ∨ ((T k).2.2.2 = true ∧ meth.name = "<init>" ∧ (T k).1 = own)) (ht : ty0 k = .int) {K : mg_H → Option ρ}
    (kk : ∀ w2 : mg_H, mg_pI w ci a k v = some w2 → mg_G E p l e R s m args below meth c nL out (K w2) w2 sz cells slots (pc + 3) L st) : mg_G E p l e R s m args below meth c nL out ((mg_pI w ci a k v).bind K) w sz cells slots pc L (.int v :: .ref a :: st) := fun o hf h1 h2 H locs ls hok hl => by
  obtain ⟨w2, hv, hf⟩ := Option.bind_eq_some_iff.mp hf
  obtain ⟨fs, ha, hfs⟩ := Option.bind_eq_some_iff.mp hv
  by_cases hlf : k < fs.length
  · rw [if_pos hlf] at hfs
    cases hfs
    exact mg_putW hC hin hc hk ty0 hty hnm hlink hdg hfin (by rw [ht]; rfl) (by rw [ht]; rfl) (mg_obj_some ha) hlf hok (fun H1 locs1 hok1 => kk _ hv o hf h1 h2 H1 locs1 ls hok1 hl)
  · rw [if_neg hlf] at hfs; cases hfs
theorem mg_putQ (hC : mg_Cx E p s m args meth c cc nL ret own) {C : String} {T : u_T} {N ci k idx a : Nat} (hin : ∀ x ∈ u_ws C T N, x ∈ mg_ws) (hc : vwCl[ci]? = some (C, T, N)) (hk : k < N) (ty0 : Nat → FieldType) (hty : ∀ k, k < N → parseFieldDescriptor (T k).2.2.1 = some (ty0 k)) (hnm : ∀ a, a < N → ∀ b, b < N → a ≠ b → (T a).2.1 ≠ (T b).2.1) (hlink : Cond.fieldLink own idx (T k).1 (T k).2.1 (T k).2.2.1 ∈ mg_ws) (hdg : decode cc pc = .ok (.putfield idx, 3)) {v : Option Nat} (hfin : (T k).2.2.2 = false ∨ ((T k).2.2.2 = true ∧ meth.name = "<init>" ∧ (T k).1 = own)) (hn : ∀ z, narrow (ty0 k) (va_rf z) = va_rf z) (hfit : ∀ z, fits (ty0 k) (va_rf z) = true) {K : mg_H → Option ρ}
    (kk : ∀ w2 : mg_H, mg_pQ w ci a k v = some w2 → mg_G E p l e R s m args below meth c nL out (K w2) w2 sz cells slots (pc + 3) L st) : mg_G E p l e R s m args below meth c nL out ((mg_pQ w ci a k v).bind K) w sz cells slots pc L (va_rf v :: .ref a :: st) := fun o hf h1 h2 H locs ls hok hl => by
  obtain ⟨w2, hv, hf⟩ := Option.bind_eq_some_iff.mp hf
  obtain ⟨fs, ha, hfs⟩ := Option.bind_eq_some_iff.mp hv
  by_cases hlf : k < fs.length
  · rw [if_pos hlf] at hfs
    cases hfs
    exact mg_putW hC hin hc hk ty0 hty hnm hlink hdg hfin (hn v) (hfit v) (mg_obj_some ha) hlf hok (fun H1 locs1 hok1 => kk _ hv o hf h1 h2 H1 locs1 ls hok1 hl)
  · rw [if_neg hlf] at hfs; cases hfs
theorem mg_ldx {α β : Type} {x : Option (Nat × (Nat → α))} {i : Int32} {v : α} (h : (x.bind fun x => (mg_ix i x.1).map x.2) = some v) : ∃ y, x = some y ∧ vp_in i y.1 ∧ v = y.2 i.toNatClampNeg := by
  obtain ⟨y, h1, h2⟩ := Option.bind_eq_some_iff.mp h
  obtain ⟨k, h3, h4⟩ := Option.map_eq_some_iff.mp h2
  obtain ⟨h5, h6⟩ := mg_ix_some h3
  exact ⟨y, h1, h5, by rw [← h4, h6]⟩
theorem mg_iald (hC : mg_Cx E p s m args meth c cc nL ret own) {a : Nat} {i : Int32} (hdg : decode cc pc = .ok (.iaload, 1)) {K : Int32 → Option ρ}
    (kk : ∀ v : Int32, mg_ldI w 0 a i = some v → mg_G E p l e R s m args below meth c nL out (K v) w sz cells slots (pc + 1) L (.int v :: st)) : mg_G E p l e R s m args below meth c nL out ((mg_ldI w 0 a i).bind K) w sz cells slots pc L (.int i :: .ref a :: st) := fun o hf h1 h2 H locs ls hok hl => by
  obtain ⟨v, hv, hf⟩ := Option.bind_eq_some_iff.mp hf
  obtain ⟨y, ha, hi, rfl⟩ := mg_ldx (β := Nat) hv
  exact va_iald (D := E.1) (cl := vwCl) hC.1 hC.2.1 hC.2.2.2.2.2.1.1 (mg_P1 hok.2.1 (mg_arI_some ha)) 0 0 rfl rfl hi hdg (kk _ hv o hf h1 h2 H locs ls hok hl)
theorem mg_zald (hC : mg_Cx E p s m args meth c cc nL ret own) {a : Nat} {i : Int32} (hdg : decode cc pc = .ok (.baload, 1)) {K : Int32 → Option ρ}
    (kk : ∀ v : Int32, mg_ldI w 1 a i = some v → mg_G E p l e R s m args below meth c nL out (K v) w sz cells slots (pc + 1) L (.int v :: st)) : mg_G E p l e R s m args below meth c nL out ((mg_ldI w 1 a i).bind K) w sz cells slots pc L (.int i :: .ref a :: st) := fun o hf h1 h2 H locs ls hok hl => by
  obtain ⟨v, hv, hf⟩ := Option.bind_eq_some_iff.mp hf
  obtain ⟨y, ha, hi, rfl⟩ := mg_ldx (β := Nat) hv
  exact va_zald (D := E.1) (cl := vwCl) hC.1 hC.2.1 hC.2.2.2.2.2.1.1 (mg_P1 hok.2.1 (mg_arI_some ha)) 0 1 rfl rfl hi hdg (kk _ hv o hf h1 h2 H locs ls hok hl)
theorem mg_lald (hC : mg_Cx E p s m args meth c cc nL ret own) {a : Nat} {i : Int32} (hdg : decode cc pc = .ok (.laload, 1)) {K : Int64 → Option ρ}
    (kk : ∀ v : Int64, mg_ldL w a i = some v → mg_G E p l e R s m args below meth c nL out (K v) w sz cells slots (pc + 1) L (.long v :: st)) : mg_G E p l e R s m args below meth c nL out ((mg_ldL w a i).bind K) w sz cells slots pc L (.int i :: .ref a :: st) := fun o hf h1 h2 H locs ls hok hl => by
  obtain ⟨v, hv, hf⟩ := Option.bind_eq_some_iff.mp hf
  obtain ⟨y, ha, hi, rfl⟩ := mg_ldx (β := Nat) hv
  exact va_lald (D := E.1) (cl := vwCl) hC.1 hC.2.1 hC.2.2.2.2.2.1.1 (mg_P1 hok.2.1 (mg_arL_some ha)) 0 2 rfl rfl hi hdg (kk _ hv o hf h1 h2 H locs ls hok hl)
theorem mg_aald (hC : mg_Cx E p s m args meth c cc nL ret own) {kd : Nat} {C : String} (ht : (mg_tys E.2.1)[kd]? = some (E.2.1 kd, .object C)) {a : Nat} {i : Int32} (hdg : decode cc pc = .ok (.aaload, 1)) {K : Option Nat → Option ρ}
    (kk : ∀ v : Option Nat, mg_ldQ w kd a i = some v → mg_G E p l e R s m args below meth c nL out (K v) w sz cells slots (pc + 1) L (va_rf v :: st)) : mg_G E p l e R s m args below meth c nL out ((mg_ldQ w kd a i).bind K) w sz cells slots pc L (.int i :: .ref a :: st) := fun o hf h1 h2 H locs ls hok hl => by
  obtain ⟨v, hv, hf⟩ := Option.bind_eq_some_iff.mp hf
  obtain ⟨y, ha, hi, rfl⟩ := mg_ldx (β := Nat) hv
  exact va_aldq (D := E.1) (cl := vwCl) hC.1 hC.2.1 hC.2.2.2.2.2.1.1 (mg_P1 hok.2.1 (mg_arQ_some ha)) 0 kd rfl ht hi hdg (kk _ hv o hf h1 h2 H locs ls hok hl)
theorem mg_alen (hC : mg_Cx E p s m args meth c cc nL ret own) {a : Nat} (hdg : decode cc pc = .ok (.arraylength, 1)) {K : Int32 → Option ρ}
    (kk : ∀ v : Int32, mg_len w a = some v → mg_G E p l e R s m args below meth c nL out (K v) w sz cells slots (pc + 1) L (.int v :: st)) : mg_G E p l e R s m args below meth c nL out ((mg_len w a).bind K) w sz cells slots pc L (.ref a :: st) := fun o hf h1 h2 H locs ls hok hl => by
  obtain ⟨v, hv, hf⟩ := Option.bind_eq_some_iff.mp hf
  have hv0 := hv
  unfold mg_len at hv
  split at hv
  · rename_i k x ha
    by_cases hk : k < 5
    · rw [if_pos hk] at hv
      cases hv
      obtain ⟨ty, ht⟩ : ∃ ty, (mg_tys E.2.1)[k]? = some (E.2.1 k, ty) := by
        match k, hk with
        | 0, _ => exact ⟨_, rfl⟩
        | 1, _ => exact ⟨_, rfl⟩
        | 2, _ => exact ⟨_, rfl⟩
        | 3, _ => exact ⟨_, rfl⟩
        | 4, _ => exact ⟨_, rfl⟩
      exact va_alen (D := E.1) (cl := vwCl) hC.1 hC.2.1 hC.2.2.2.2.2.1.1 (mg_P1 hok.2.1 ha) 0 k rfl ht rfl hdg (kk _ hv0 o hf h1 h2 H locs ls hok hl)
    · rw [if_neg hk] at hv; cases hv
  · cases hv
theorem mg_stx {α : Type} {x : Option (Nat × (Nat → α))} {i : Int32} {g : Nat × (Nat → α) → Nat → mg_H} {v : mg_H} (h : (x.bind fun x => (mg_ix i x.1).map (g x)) = some v) : ∃ y, x = some y ∧ vp_in i y.1 ∧ v = g y i.toNatClampNeg := by
  obtain ⟨y, h1, h2⟩ := Option.bind_eq_some_iff.mp h
  obtain ⟨k, h3, h4⟩ := Option.map_eq_some_iff.mp h2
  obtain ⟨h5, h6⟩ := mg_ix_some h3
  exact ⟨y, h1, h5, by rw [← h4, h6]⟩
theorem mg_iast (hC : mg_Cx E p s m args meth c cc nL ret own) {a : Nat} {i x : Int32} (hdg : decode cc pc = .ok (.iastore, 1)) {K : mg_H → Option ρ}
    (kk : ∀ w2 : mg_H, mg_stI w a i x = some w2 → mg_G E p l e R s m args below meth c nL out (K w2) w2 sz cells slots (pc + 1) L st) : mg_G E p l e R s m args below meth c nL out ((mg_stI w a i x).bind K) w sz cells slots pc L (.int x :: .int i :: .ref a :: st) := fun o hf h1 h2 H locs ls hok hl => by
  obtain ⟨w2, hv, hf⟩ := Option.bind_eq_some_iff.mp hf
  obtain ⟨y, ha, hi, rfl⟩ := mg_stx hv
  have hw := mg_arI_some ha
  have hat := (hok.2.1 a _ hw).1
  refine W.iast hC.1 hC.2.1 hat ((hC.2.2.2.2.2.1.1.2 0 _ rfl).1 y.1 (fun j => .int (y.2 j))) (fun q => by cases q) (by show ¬ (i < 0 ∨ (arrV _ _ _).slots.size ≤ _); rw [arrV_size]; exact hi) rfl rfl hdg fun H1 e1 z oq => ?_
  refine kk _ hv o hf h1 h2 H1 _ ls (hok.put hw z oq ?_) hl
  show H1[a]? = some (vp_cell _ _)
  rw [e1]
  show some (Cell.setSlot (vp_cell _ _) _ _) = _
  rw [vp_cell_i, vp_cell_i, arrV_store]
  congr 2
  funext q
  by_cases hq : q = i.toNatClampNeg
  · subst hq
    simp [updV, upd]
  · simp [updV, upd, hq]
theorem mg_zast (hC : mg_Cx E p s m args meth c cc nL ret own) {a : Nat} {i x : Int32} (hdg : decode cc pc = .ok (.bastore, 1)) {K : mg_H → Option ρ}
    (kk : ∀ w2 : mg_H, mg_stZ w a i x = some w2 → mg_G E p l e R s m args below meth c nL out (K w2) w2 sz cells slots (pc + 1) L st) : mg_G E p l e R s m args below meth c nL out ((mg_stZ w a i x).bind K) w sz cells slots pc L (.int x :: .int i :: .ref a :: st) := fun o hf h1 h2 H locs ls hok hl => by
  obtain ⟨w2, hv, hf⟩ := Option.bind_eq_some_iff.mp hf
  obtain ⟨y, ha, hi, rfl⟩ := mg_stx hv
  have hw := mg_arI_some ha
  have hat := (hok.2.1 a _ hw).1
  refine W.zast hC.1 hC.2.1 hat ((hC.2.2.2.2.2.1.1.2 1 _ rfl).1 y.1 (fun j => .int (y.2 j))) (fun q => by cases q) (by show ¬ (i < 0 ∨ (arrV _ _ _).slots.size ≤ _); rw [arrV_size]; exact hi) rfl rfl hdg fun H1 e1 z oq => ?_
  refine kk _ hv o hf h1 h2 H1 _ ls (hok.put hw z oq ?_) hl
  show H1[a]? = some (vp_cell _ _)
  rw [e1]
  show some (Cell.setSlot (vp_cell _ _) _ _) = _
  rw [vp_cell_i, vp_cell_i, arrV_store]
  congr 2
  funext q
  by_cases hq : q = i.toNatClampNeg
  · subst hq
    simp [updV, upd, vp_nar]
    try rfl
  · simp [updV, upd, hq]
theorem mg_last (hC : mg_Cx E p s m args meth c cc nL ret own) {a : Nat} {i : Int32} {x : Int64} (hdg : decode cc pc = .ok (.lastore, 1)) {K : mg_H → Option ρ}
    (kk : ∀ w2 : mg_H, mg_stL w a i x = some w2 → mg_G E p l e R s m args below meth c nL out (K w2) w2 sz cells slots (pc + 1) L st) : mg_G E p l e R s m args below meth c nL out ((mg_stL w a i x).bind K) w sz cells slots pc L (.long x :: .int i :: .ref a :: st) := fun o hf h1 h2 H locs ls hok hl => by
  obtain ⟨w2, hv, hf⟩ := Option.bind_eq_some_iff.mp hf
  obtain ⟨y, ha, hi, rfl⟩ := mg_stx hv
  have hw := mg_arL_some ha
  have hat := (hok.2.1 a _ hw).1
  refine W.last hC.1 hC.2.1 hat ((hC.2.2.2.2.2.1.1.2 2 _ rfl).1 y.1 (fun j => .long (y.2 j))) (fun q => by cases q) (by show ¬ (i < 0 ∨ (arrV _ _ _).slots.size ≤ _); rw [arrV_size]; exact hi) rfl rfl hdg fun H1 e1 z oq => ?_
  refine kk _ hv o hf h1 h2 H1 _ ls (hok.put hw z oq ?_) hl
  show H1[a]? = some (vp_cell _ _)
  rw [e1]
  show some (Cell.setSlot (vp_cell _ _) _ _) = _
  rw [vp_cell_l, vp_cell_l, arrV_store]
  congr 2
  funext q
  by_cases hq : q = i.toNatClampNeg
  · subst hq
    simp [updV, vp_updL]
  · simp [updV, vp_updL, hq]
theorem mg_aast (hC : mg_Cx E p s m args meth c cc nL ret own) {kd ci : Nat} {r : vw_C} (ht : (mg_tys E.2.1)[kd]? = some (E.2.1 kd, .object r.1)) (hc : vwCl[ci]? = some r) {a v : Nat} {i : Int32} (hdg : decode cc pc = .ok (.aastore, 1)) {K : mg_H → Option ρ}
    (kk : ∀ w2 : mg_H, mg_stQ w kd ci a i v = some w2 → mg_G E p l e R s m args below meth c nL out (K w2) w2 sz cells slots (pc + 1) L st) : mg_G E p l e R s m args below meth c nL out ((mg_stQ w kd ci a i v).bind K) w sz cells slots pc L (.ref v :: .int i :: .ref a :: st) := fun o hf h1 h2 H locs ls hok hl => by
  obtain ⟨w2, hv, hf⟩ := Option.bind_eq_some_iff.mp hf
  obtain ⟨y, ha, hv2⟩ := Option.bind_eq_some_iff.mp hv
  obtain ⟨k, hk, hv3⟩ := Option.bind_eq_some_iff.mp hv2
  obtain ⟨vs, hvs, hv4⟩ := Option.map_eq_some_iff.mp hv3
  obtain ⟨hin, rfl⟩ := mg_ix_some hk
  subst hv4
  have hK := hC.2.2.2.2.2.1.1
  have hlt : i.toNatClampNeg < y.1 := Nat.not_le.mp fun q => hin (Or.inr q)
  have h0 : ¬ i < 0 := fun q => hin (Or.inl q)
  obtain ⟨r', hr', cellV, g1, g2, g3, -⟩ := (hok.2.1 v _ (mg_obj_some hvs)).1
  have hcls := (hK.1 ci r hc).2
  obtain ⟨kA, comp, k1, k2, k3, -⟩ := (hK.2 kd _ ht).2
  have hcomp : comp = E.1.1 ci := Option.some.inj (k3.symm.trans hcls.1)
  subst hcomp
  obtain ⟨kC, hkC, -⟩ := hcls.2
  have hw := mg_arQ_some ha
  have hat := (hok.2.1 a _ hw).1
  refine W.aast hC.1 hC.2.1 hat (fun q h => by cases h) (fun h => by cases h) k1 k2 rfl hkC ⟨h0, by show _ < (arrV _ _ _).slots.size; rw [arrV_size]; exact hlt⟩ g1 (fun q h => by rw [g3] at h; cases h) (by rw [g2]; exact hkC) (by rw [g2]; exact va_assign hcls) rfl rfl hdg fun H1 e1 z oq => ?_
  refine kk _ hv o hf h1 h2 H1 _ ls (hok.put hw z oq ?_) hl
  show H1[a]? = some (vp_cell _ _)
  rw [e1]
  show some (Cell.setSlot (vp_cell _ _) _ _) = _
  rw [vp_cell_q, vp_cell_q, arrV_store]
  congr 2
  funext q
  by_cases hq : q = i.toNatClampNeg
  · subst hq
    simp [updV, va_up, va_rf]
  · simp [updV, va_up, hq]
end MGH
