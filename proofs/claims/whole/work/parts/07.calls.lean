section MGK
variable {ρ : Type} {E : mg_P} {p : Program} {l : Launch} {e : Env} {R : Room} {s : State} {m : MethodId} {args : Array Value} {below : List Frame} {meth : Method} {c : Code} {cc : ByteArray} {nL : Nat} {ret : Option FieldType} {own : String} {out : ρ → mg_R} {F : Option ρ} {w : mg_H} {sz cells slots pc : Nat} {L : List (Nat × Value)} {st : List Value}
/-! new objects and arrays: only in functions that count -/
theorem mg_alloc {α : Type} {f : α → Option Value} {K : Option (α × mg_H × Nat × Nat)} {N ln : Nat} {x : mg_E} {st2 : List Value}
    (kk : mg_G E p l e R s m args below meth c nL (mg_oA f) K (mg_set w sz x) (sz + 1) (cells + 1) (slots + N) (pc + ln) L st2)
    (hnew : ∀ (Q : State → Prop) (H : Heap) (locs : List Loc) (ls : Array Slot), mg_Ok E w sz s H locs → cells + 1 ≤ R.cells → slots + N ≤ R.slots → (∀ H1 : Heap, mg_Ok E (mg_set w sz x) (sz + 1) s H1 locs → W p l e R s m args below meth c H1 locs (cells + 1) (slots + N) Q (F0 m (pc + ln) ls st2)) → W p l e R s m args below meth c H locs cells slots Q (F0 m pc ls st)) :
    mg_G E p l e R s m args below meth c nL (mg_oA f) (mg_bmp 1 N K) w sz cells slots pc L st := fun o hf h1 h2 H locs ls hok hl => by
  obtain ⟨o2, hf2, rfl⟩ := Option.map_eq_some_iff.mp hf
  have h1' : cells + (1 + o2.2.2.1) ≤ R.cells := h1
  have h2' : slots + (N + o2.2.2.2) ≤ R.slots := h2
  refine hnew _ H locs ls hok (by omega) (by omega) (fun H1 hok1 => ?_)
  have q := kk o2 hf2 (by show cells + 1 + o2.2.2.1 ≤ _; omega) (by show slots + N + o2.2.2.2 ≤ _; omega) H1 locs ls hok1 hl
  have e1 : mg_Z E s args below (mg_oA f o2) (sz + 1) (cells + 1) (slots + N) = mg_Z E s args below (mg_oA f (o2.1, o2.2.1, 1 + o2.2.2.1, N + o2.2.2.2)) sz cells slots := by
    unfold mg_Z mg_oA
    show MQ below (mg_Qc E (f o2.1) o2.2.1 (sz + 1 + o2.2.2.1)) args s (cells + 1 + o2.2.2.1) (slots + N + o2.2.2.2) _ = MQ below (mg_Qc E (f o2.1) o2.2.1 (sz + (1 + o2.2.2.1))) args s (cells + (1 + o2.2.2.1)) (slots + (N + o2.2.2.2)) _
    rw [Nat.add_assoc, Nat.add_assoc, Nat.add_assoc]
  rw [e1] at q
  exact q
theorem mg_new (hC : mg_Cx E p s m args meth c cc nL ret own) {α : Type} {f : α → Option Value} {K : Option (α × mg_H × Nat × Nat)} {C : String} {T : u_T} {N ci idx : Nat} (hin : ∀ x ∈ u_ws C T N, x ∈ mg_ws) (hc : vwCl[ci]? = some (C, T, N)) (ty0 : Nat → FieldType) (hty : ∀ k, k < N → parseFieldDescriptor (T k).2.2.1 = some (ty0 k)) (fs : List Value) (hfs : ∀ j, j < N → defaultValue (ty0 j) = vp_V fs j) (hcl : Cond.classLink own idx C ∈ mg_ws) (hinst : Cond.instantiable C N ∈ mg_ws) (hini : Cond.initialized C ∈ mg_ws) (hdg : decode cc pc = .ok (.new idx, 3))
    (kk : mg_G E p l e R s m args below meth c nL (mg_oA f) K (mg_set w sz (.inl (ci, fs))) (sz + 1) (cells + 1) (slots + N) (pc + 3) L (.ref sz :: st)) : mg_G E p l e R s m args below meth c nL (mg_oA f) (mg_bmp 1 N K) w sz cells slots pc L st := by
  refine mg_alloc kk (fun Q H locs ls hok h1 h2 k => ?_)
  have hK := hC.2.2.2.2.2.1.1
  have hts := hC.2.2.2.2.1
  have hKn := hK.1 ci _ hc
  refine W.newcK hC.1 hC.2.1 hC.2.2.2.1 (hts _ hcl) (hts _ hinst) (hts _ hini) rfl hdg h1 h2 hKn.2.1 hok.1 fun H1 kC hkC e1 z1 o1 => ?_
  exact k H1 (hok.push z1 o1 ⟨_, hc, (u_born ty0 hts hin hKn hkC e1 hty).to hfs⟩)
theorem mg_newaW (hC : mg_Cx E p s m args meth c cc nL ret own) {α : Type} {f : α → Option Value} {K : Option (α × mg_H × Nat × Nat)} {atype : ArrayType} {ty : FieldType} (hty : newarray.typeOf atype = ty) (kd : Nat) (ht : (mg_tys E.2.1)[kd]? = some (E.2.1 kd, ty)) (hra : ∀ cA, va_RA s cA ty → s.vm.findClass ("[" ++ ty.toString) = some cA) (harr : Cond.arrayClass ty ∈ mg_ws) (hsm : componentBytes ty ≤ 8) {n : Int32} {a0 : Nat → vp_A} (ha : ∀ (cA : ClassId) (N : Nat), vp_cell cA (a0 N) = arrV cA N (fun _ => defaultValue ty)) (hn : ¬ n < 0) (hb : n.toNatClampNeg ≤ 67108864) (hdg : decode cc pc = .ok (.newarray atype, 2))
    (kk : mg_G E p l e R s m args below meth c nL (mg_oA f) K (mg_set w sz (.inr (kd, a0 n.toNatClampNeg))) (sz + 1) (cells + 1) (slots + n.toNatClampNeg) (pc + 2) L (.ref sz :: st)) : mg_G E p l e R s m args below meth c nL (mg_oA f) (mg_bmp 1 n.toNatClampNeg K) w sz cells slots pc L (.int n :: st) := by
  subst hty
  refine mg_alloc kk (fun Q H locs ls hok h1 h2 k => ?_)
  have hK := hC.2.2.2.2.2.1.1
  have hts := hC.2.2.2.2.1
  refine va_newaK hC.1 hC.2.1 (hts _ harr) rfl hdg rfl hn rfl (by
    have h3 : n.toNatClampNeg * componentBytes (newarray.typeOf atype) ≤ 67108864 * 8 := Nat.mul_le_mul hb hsm
    omega) h1 h2 hok.1 fun H1 cA e1 z1 o1 hAr hNm => ?_
  have hcA : cA = E.2.1 kd := Option.some.inj (hNm.symm.trans (hra _ (hK.2 kd _ ht).2))
  subst hcA
  refine k H1 (hok.push z1 o1 ?_)
  show H1[sz]? = some (vp_cell _ _)
  rw [ha]
  exact e1
theorem mg_newI (hC : mg_Cx E p s m args meth c cc nL ret own) {α : Type} {f : α → Option Value} {K : Option (α × mg_H × Nat × Nat)} {atype : ArrayType} (hty : newarray.typeOf atype = .int) (harr : Cond.arrayClass .int ∈ mg_ws) {n : Int32} (hdg : decode cc pc = .ok (.newarray atype, 2))
    (kk : mg_G E p l e R s m args below meth c nL (mg_oA f) K (mg_set w sz (.inr (0, n.toNatClampNeg, .inl (fun _ => 0)))) (sz + 1) (cells + 1) (slots + n.toNatClampNeg) (pc + 2) L (.ref sz :: st)) : mg_G E p l e R s m args below meth c nL (mg_oA f) (if n < 0 ∨ 67108864 < n.toNatClampNeg then none else mg_bmp 1 n.toNatClampNeg K) w sz cells slots pc L (.int n :: st) := fun o hf h1 h2 => by
  by_cases q : n < 0 ∨ 67108864 < n.toNatClampNeg
  · rw [if_pos q] at hf; cases hf
  · rw [if_neg q] at hf
    exact mg_newaW hC hty 0 rfl (fun _ h => h) harr (by decide) (a0 := fun N => (N, .inl (fun _ => 0))) (fun cA N => by rw [vp_cell_i]; rfl) (fun z => q (Or.inl z)) (Nat.not_lt.mp fun z => q (Or.inr z)) hdg kk o hf h1 h2
theorem mg_newZ (hC : mg_Cx E p s m args meth c cc nL ret own) {α : Type} {f : α → Option Value} {K : Option (α × mg_H × Nat × Nat)} {atype : ArrayType} (hty : newarray.typeOf atype = .boolean) (harr : Cond.arrayClass .boolean ∈ mg_ws) {n : Int32} (hdg : decode cc pc = .ok (.newarray atype, 2))
    (kk : mg_G E p l e R s m args below meth c nL (mg_oA f) K (mg_set w sz (.inr (1, n.toNatClampNeg, .inl (fun _ => 0)))) (sz + 1) (cells + 1) (slots + n.toNatClampNeg) (pc + 2) L (.ref sz :: st)) : mg_G E p l e R s m args below meth c nL (mg_oA f) (if n < 0 ∨ 67108864 < n.toNatClampNeg then none else mg_bmp 1 n.toNatClampNeg K) w sz cells slots pc L (.int n :: st) := fun o hf h1 h2 => by
  by_cases q : n < 0 ∨ 67108864 < n.toNatClampNeg
  · rw [if_pos q] at hf; cases hf
  · rw [if_neg q] at hf
    exact mg_newaW hC hty 1 rfl (fun _ h => h) harr (by decide) (a0 := fun N => (N, .inl (fun _ => 0))) (fun cA N => by rw [vp_cell_i]; rfl) (fun z => q (Or.inl z)) (Nat.not_lt.mp fun z => q (Or.inr z)) hdg kk o hf h1 h2
theorem mg_newL (hC : mg_Cx E p s m args meth c cc nL ret own) {α : Type} {f : α → Option Value} {K : Option (α × mg_H × Nat × Nat)} {atype : ArrayType} (hty : newarray.typeOf atype = .long) (harr : Cond.arrayClass .long ∈ mg_ws) {n : Int32} (hdg : decode cc pc = .ok (.newarray atype, 2))
    (kk : mg_G E p l e R s m args below meth c nL (mg_oA f) K (mg_set w sz (.inr (2, n.toNatClampNeg, .inr (.inl (fun _ => 0))))) (sz + 1) (cells + 1) (slots + n.toNatClampNeg) (pc + 2) L (.ref sz :: st)) : mg_G E p l e R s m args below meth c nL (mg_oA f) (if n < 0 ∨ 67108864 < n.toNatClampNeg then none else mg_bmp 1 n.toNatClampNeg K) w sz cells slots pc L (.int n :: st) := fun o hf h1 h2 => by
  by_cases q : n < 0 ∨ 67108864 < n.toNatClampNeg
  · rw [if_pos q] at hf; cases hf
  · rw [if_neg q] at hf
    exact mg_newaW hC hty 2 rfl (fun _ h => h) harr (by decide) (a0 := fun N => (N, .inr (.inl (fun _ => 0)))) (fun cA N => by rw [vp_cell_l]; rfl) (fun z => q (Or.inl z)) (Nat.not_lt.mp fun z => q (Or.inr z)) hdg kk o hf h1 h2
theorem mg_newQ (hC : mg_Cx E p s m args meth c cc nL ret own) {α : Type} {f : α → Option Value} {K : Option (α × mg_H × Nat × Nat)} {C : String} {idx kd : Nat} (ht : (mg_tys E.2.1)[kd]? = some (E.2.1 kd, .object C)) (hover : va_AO C s) (hcl : Cond.classLink own idx C ∈ mg_ws) {n : Int32} (hdg : decode cc pc = .ok (.anewarray idx, 3))
    (kk : mg_G E p l e R s m args below meth c nL (mg_oA f) K (mg_set w sz (.inr (kd, n.toNatClampNeg, .inr (.inr (.inr (.inr (fun _ => none))))))) (sz + 1) (cells + 1) (slots + n.toNatClampNeg) (pc + 3) L (.ref sz :: st)) : mg_G E p l e R s m args below meth c nL (mg_oA f) (if n < 0 ∨ 67108864 < n.toNatClampNeg then none else mg_bmp 1 n.toNatClampNeg K) w sz cells slots pc L (.int n :: st) := fun o hf h1 h2 => by
  by_cases q : n < 0 ∨ 67108864 < n.toNatClampNeg
  · rw [if_pos q] at hf; cases hf
  · rw [if_neg q] at hf
    have hb : n.toNatClampNeg ≤ 67108864 := Nat.not_lt.mp fun z => q (Or.inr z)
    refine mg_alloc kk (fun Q H locs ls hok h1 h2 k => ?_) o hf h1 h2
    have hK := hC.2.2.2.2.2.1.1
    have hts := hC.2.2.2.2.1
    obtain ⟨kA0, comp0, a1, a2, a3, a4⟩ := (hK.2 kd _ ht).2
    refine W.anew hC.1 hC.2.1 hC.2.2.2.1 (hts _ hcl) (va_AO.use hover) rfl hdg rfl (fun z => q (Or.inl z)) (by omega) h1 h2 fun cA kA comp f1 f2 f3 f4 => ?_
    have hcA : cA = E.2.1 kd := Option.some.inj (f1.symm.trans a4)
    subst hcA
    have hz := hok.1
    subst hz
    refine k _ (hok.push (by rw [Array.size_push]) (fun q hq => by rw [Array.getElem?_push, if_neg (Nat.ne_of_lt hq)]) ?_)
    show (H.push _)[H.size]? = some (vp_cell _ _)
    rw [Array.getElem?_push_size, vp_cell_q, ← arrV_new]
    rfl
/-! returns -/
theorem mg_widen {o : mg_R} (h0 : o.2.2.1 = 0) (h1 : o.2.2.2 = 0) {H : Heap} {locs : List Loc} {g : JFrame} (k : W p l e R s m args below meth c H locs cells slots (MQ below (mg_Qc E o.1 o.2.1 sz) args s cells slots (fun q => E.2.2 ≤ q)) g) : W p l e R s m args below meth c H locs cells slots (mg_Z E s args below o sz cells slots) g := by
  unfold mg_Z
  rw [h0, h1]
  exact k
theorem mg_endQ {H : Heap} {locs : List Loc} {r : Option Value} (hok : mg_Ok E w sz s H locs) : ∀ t : State, t.heap = H → s.WarmedH t.vm → mg_Qc E r w sz args s (.returned r) t := fun t ht _ => ⟨rfl, by rw [ht]; exact hok.1, by rw [ht]; exact hok.2.1, fun q hq => by rw [ht]; exact hok.2.2.2.2.1 q hq⟩
theorem mg_iret (hC : mg_Cx E p s m args meth c cc nL (some .int) own) {o : ρ} {v : Int32} (ho : out o = (some (.int v), w, 0, 0)) (hdg : decode cc pc = .ok (.ireturn, 1)) : mg_G E p l e R s m args below meth c nL out (some o) w sz cells slots pc L [.int v] := fun o2 hf h1 h2 H locs ls hok hl => by
  cases hf
  rw [ho]
  exact mg_widen rfl rfl (W.iret hC.1 hC.2.1 hC.2.2.2.2.2.2.1 (mg_endQ hok) hok.2.2.2.2.2 hdg hC.2.2.2.2.2.2.2)
theorem mg_zret (hC : mg_Cx E p s m args meth c cc nL (some .boolean) own) {o : ρ} {v : Int32} (ho : out o = (some (.int v), w, 0, 0)) (hdg : decode cc pc = .ok (.ireturn, 1)) : mg_G E p l e R s m args below meth c nL out (if v &&& 1 = v then some o else none) w sz cells slots pc L [.int v] := fun o2 hf h1 h2 H locs ls hok hl => by
  by_cases q : v &&& 1 = v
  · rw [if_pos q] at hf
    cases hf
    rw [ho]
    exact mg_widen rfl rfl (W.zret hC.1 hC.2.1 hC.2.2.2.2.2.2.1 (by show Value.int (v &&& 1) = _; rw [q]) (mg_endQ hok) hok.2.2.2.2.2 hdg hC.2.2.2.2.2.2.2)
  · rw [if_neg q] at hf; cases hf
theorem mg_zretC (hC : mg_Cx E p s m args meth c cc nL (some .boolean) own) {o : ρ} {v : Int32} (hv : v &&& 1 = v) (ho : out o = (some (.int v), w, 0, 0)) (hdg : decode cc pc = .ok (.ireturn, 1)) : mg_G E p l e R s m args below meth c nL out (some o) w sz cells slots pc L [.int v] := fun o2 hf h1 h2 H locs ls hok hl => by
  cases hf
  rw [ho]
  exact mg_widen rfl rfl (W.zret hC.1 hC.2.1 hC.2.2.2.2.2.2.1 (by show Value.int (v &&& 1) = _; rw [hv]) (mg_endQ hok) hok.2.2.2.2.2 hdg hC.2.2.2.2.2.2.2)
theorem mg_lret (hC : mg_Cx E p s m args meth c cc nL (some .long) own) {o : ρ} {v : Int64} (ho : out o = (some (.long v), w, 0, 0)) (hdg : decode cc pc = .ok (.lreturn, 1)) : mg_G E p l e R s m args below meth c nL out (some o) w sz cells slots pc L [.long v] := fun o2 hf h1 h2 H locs ls hok hl => by
  cases hf
  rw [ho]
  exact mg_widen rfl rfl (W.lret hC.1 hC.2.1 hC.2.2.2.2.2.2.1 (mg_endQ hok) hok.2.2.2.2.2 hdg hC.2.2.2.2.2.2.2)
theorem mg_vret (hC : mg_Cx E p s m args meth c cc nL none own) {o : ρ} (ho : out o = (none, w, 0, 0)) (hdg : decode cc pc = .ok (.return_, 1)) : mg_G E p l e R s m args below meth c nL out (some o) w sz cells slots pc L [] := fun o2 hf h1 h2 H locs ls hok hl => by
  cases hf
  rw [ho]
  exact mg_widen rfl rfl (W.vret hC.1 hC.2.1 hC.2.2.2.2.2.2.1 (mg_endQ hok) hok.2.2.2.2.2 hdg hC.2.2.2.2.2.2.2)
theorem mg_aret {C : String} (hC : mg_Cx E p s m args meth c cc nL (some (.object C)) own) {o : ρ} {r : Option Nat} (ho : out o = (some (va_rf r), w, 0, 0)) (hdg : decode cc pc = .ok (.areturn, 1)) : mg_G E p l e R s m args below meth c nL out (some o) w sz cells slots pc L [va_rf r] := fun o2 hf h1 h2 H locs ls hok hl => by
  cases hf
  rw [ho]
  exact mg_widen rfl rfl (W.aret hC.1 hC.2.1 hC.2.2.2.2.2.2.1 (Or.inl ⟨_, rfl⟩) (by cases r with | none => exact Or.inl rfl | some a => exact Or.inr ⟨a, rfl⟩) (mg_endQ hok) hok.2.2.2.2.2 hdg hC.2.2.2.2.2.2.2)
/-! calls: how one is run, by its kind -/
def mg_Run (E : mg_P) (p : Program) (l : Launch) (e : Env) (R : Room) (s : State) (m : MethodId) (args : Array Value) (below : List Frame) (meth : Method) (c : Code) (nL : Nat) (o : mg_R) (w : mg_H) (sz cells slots pc : Nat) (st0 rest : List Value) : Prop :=
  ∀ (H : Heap) (locs : List Loc) (ls : Array Slot), mg_Ok E w sz s H locs → ls.size = nL → cells + o.2.2.1 ≤ R.cells → slots + o.2.2.2 ≤ R.slots → va_Run p l e R s m args below meth c H locs cells slots o.2.2.1 o.2.2.2 (F0 m pc ls st0) rest (mg_Qc E o.1 o.2.1 (sz + o.2.2.1) #[]) (fun q => E.2.2 ≤ q)
theorem mg_preS {H : Heap} {locs : List Loc} {av : List Value} (hC : mg_Cx E p s m args meth c cc nL ret own) (hok : mg_Ok E w sz s H locs) : PreS s H (mg_Pc E av w sz) av := ⟨mg_blind, fun U hU hW => ⟨rfl, by rw [hU]; exact hok.1, by rw [hU]; exact hok.2.1, Nat.le_trans hok.2.2.1 hok.2.2.2.1, mg_Tb.warm hW hC.2.2.2.2.2.1⟩⟩
theorem mg_runS (hC : mg_Cx E p s m args meth c cc nL ret own) {y : MethodName} {bytes : ByteArray} {maxL fr lo idx n : Nat} {ret2 : Option FieldType} {av rest st0 : List Value} {o : mg_R} (hM : mg_C E l y bytes maxL ret2 fr lo av w sz o) (hcode : Cond.code y bytes maxL ret2 ∈ mg_ws) (hlink : Cond.methodLink own idx y ∈ mg_ws) (hstat : Cond.static y ∈ mg_ws) (hini : Cond.initialized y.cls ∈ mg_ws) (hd : y.cls ≠ "java/lang/invoke/MethodHandle" ∧ y.cls ≠ "java/lang/invoke/VarHandle" ∧ (parseMethodDescriptor y.desc).map (fun d => d.parameters.length) = some n) (hn : av.length = n) (hR : fr + 1 ≤ R.frames ∧ 8 + (maxL + 11) + lo ≤ R.locals) (hst : st0 = av.reverse ++ rest) (hW : (rest.map fun v => v.category).sum ≤ 8) (hdg : decode cc pc = .ok (.invokestatic idx, 3)) : mg_Run E p l e R s m args below meth c nL o w sz cells slots pc st0 rest := fun H locs ls hok hls h1 h2 => by
  have hts := hC.2.2.2.2.1
  exact va_runS (As := av) (rest := rest) ⟨hC.1, hC.2.1, hC.2.2.1, hC.2.2.2.1, hts⟩ hM ⟨callB_of n hts (mg_good hcode) rfl rfl rfl (hts _ hini) (hts _ hlink) hd hR, hts _ hstat⟩ (mg_preS hC hok) rfl hn hls hst (lv_room hW) hdg ⟨h1, h2⟩
theorem mg_runSN (hC : mg_Cx E p s m args meth c cc nL ret own) {y : MethodName} {host : String} {bytes : ByteArray} {maxL fr lo idx n : Nat} {ret2 : Option FieldType} {av rest st0 : List Value} {o : mg_R} (hM : mg_C E l y bytes maxL ret2 fr lo av w sz o) (hcode : Cond.code y bytes maxL ret2 ∈ mg_ws) (hlink : (own, idx, y, host) ∈ mg_nest) (hstat : Cond.static y ∈ mg_ws) (hini : Cond.initialized y.cls ∈ mg_ws) (hd : y.cls ≠ "java/lang/invoke/MethodHandle" ∧ y.cls ≠ "java/lang/invoke/VarHandle" ∧ (parseMethodDescriptor y.desc).map (fun d => d.parameters.length) = some n) (hn : av.length = n) (hR : fr + 1 ≤ R.frames ∧ 8 + (maxL + 11) + lo ≤ R.locals) (hst : st0 = av.reverse ++ rest) (hW : (rest.map fun v => v.category).sum ≤ 8) (hdg : decode cc pc = .ok (.invokestatic idx, 3)) : mg_Run E p l e R s m args below meth c nL o w sz cells slots pc st0 rest := fun H locs ls hok hls h1 h2 => by
  have hts := hC.2.2.2.2.1
  exact va_runSN (As := av) (rest := rest) ⟨hC.1, hC.2.1, hC.2.2.1, hC.2.2.2.1, hts⟩ hM ⟨va_cnB n hts (mg_good hcode) rfl rfl rfl (hC.2.2.2.2.2.1.2.1 _ hlink) (hts _ hini) hd hR, hts _ hstat, trivial⟩ (mg_preS hC hok) rfl hn hls hst (lv_room hW) hdg ⟨h1, h2⟩
theorem mg_runI (hC : mg_Cx E p s m args meth c cc nL ret own) {y : MethodName} {bytes : ByteArray} {maxL fr lo idx n b : Nat} {av rest st0 : List Value} {o : mg_R} (hM : mg_C E l y bytes maxL none fr lo (.ref b :: av) w sz o) (hcode : Cond.code y bytes maxL none ∈ mg_ws) (hlink : Cond.methodLink own idx y ∈ mg_ws) (hinst : Cond.instanceMethod y ∈ mg_ws) (hini : Cond.initialized y.cls ∈ mg_ws) (hy1 : y.name = "<init>") (hd : y.cls ≠ "java/lang/invoke/MethodHandle" ∧ y.cls ≠ "java/lang/invoke/VarHandle" ∧ (parseMethodDescriptor y.desc).map (fun d => d.parameters.length) = some n) (hn : av.length = n) (hR : fr + 1 ≤ R.frames ∧ 8 + (maxL + 11) + lo ≤ R.locals) (hst : st0 = av.reverse ++ .ref b :: rest) (hW : (rest.map fun v => v.category).sum ≤ 8) (hdg : decode cc pc = .ok (.invokespecial idx, 3)) : mg_Run E p l e R s m args below meth c nL o w sz cells slots pc st0 rest := fun H locs ls hok hls h1 h2 => by
  have hts := hC.2.2.2.2.1
  exact va_runI (As := av) (rest := rest) ⟨hC.1, hC.2.1, hC.2.2.1, hC.2.2.2.1, hts⟩ hM (cwI n hts (mg_good hcode) rfl rfl rfl (hts _ hini) (hts _ hlink) (hts _ hinst) hy1 hd hR) (mg_preS hC hok) rfl hn hls hst (lv_room hW) hdg ⟨h1, h2⟩
theorem mg_runV (hC : mg_Cx E p s m args meth c cc nL ret own) {y : MethodName} {bytes : ByteArray} {maxL fr lo idx n b ci : Nat} {ret2 : Option FieldType} {av rest st0 : List Value} {o : mg_R} {q : vw_C} (hc : vwCl[ci]? = some q) (hM : mg_C E l y bytes maxL ret2 fr lo (.ref b :: av) w sz o) (hcode : Cond.code y bytes maxL ret2 ∈ mg_ws) (hlink : Cond.methodLink own idx y ∈ mg_ws) (hinst : Cond.instanceMethod y ∈ mg_ws) (hsel : Cond.selects q.1 y y ∈ mg_ws) (hini : Cond.initialized y.cls ∈ mg_ws) (hd : y.cls ≠ "java/lang/invoke/MethodHandle" ∧ y.cls ≠ "java/lang/invoke/VarHandle" ∧ (parseMethodDescriptor y.desc).map (fun d => d.parameters.length) = some n) (hn : av.length = n) (hR : fr + 1 ≤ R.frames ∧ 8 + (maxL + 11) + lo ≤ R.locals) (hst : st0 = av.reverse ++ .ref b :: rest) (hW : (rest.map fun v => v.category).sum ≤ 8) (hdg : decode cc pc = .ok (.invokevirtual idx, 3)) (hb : (mg_obj w ci b).isSome = true) : mg_Run E p l e R s m args below meth c nL o w sz cells slots pc st0 rest := fun H locs ls hok hls h1 h2 => by
  have hts := hC.2.2.2.2.1
  obtain ⟨fs, hb⟩ := Option.isSome_iff_exists.mp hb
  have hrecv : ∃ cell : Cell, H[b]? = some cell ∧ cell.vm.isStatics = false ∧ s.vm.findClass q.1 = some cell.cls := va_recv (D := E.1) (cl := vwCl) (q0 := 0) hC.2.2.2.2.2.1.1 (mg_P1 hok.2.1 (mg_obj_some hb)) hc rfl
  have hpre := mg_preS (av := .ref b :: av) hC hok
  exact va_runV (As := av) (rest := rest) ⟨hC.1, hC.2.1, hC.2.2.1, hC.2.2.2.1, hts⟩ hM ⟨callB_of n hts (mg_good hcode) rfl rfl rfl (hts _ hini) (hts _ hlink) hd hR, hts _ hinst, hts _ hsel⟩ ⟨hpre.1, hrecv, hpre.2⟩ rfl hn hls hst (lv_room hW) hdg ⟨h1, h2⟩
/-! and how it goes on: the callee answers a value alone, or changes the world, or makes cells -/
theorem mg_after {o : mg_R} {rest st0 : List Value} (hr : mg_Run E p l e R s m args below meth c nL o w sz cells slots pc st0 rest) {H : Heap} {locs : List Loc} {ls : Array Slot} {Q : State → Prop} (hok : mg_Ok E w sz s H locs) (hls : ls.size = nL) (h1 : cells + o.2.2.1 ≤ R.cells) (h2 : slots + o.2.2.2 ≤ R.slots)
    (kk : ∀ (H1 : Heap) (locs1 : List Loc), mg_Ok E o.2.1 (sz + o.2.2.1) s H1 locs1 → W p l e R s m args below meth c H1 locs1 (cells + o.2.2.1) (slots + o.2.2.2) Q (F0 m (pc + 3) ls (o.1.toList ++ rest))) : W p l e R s m args below meth c H locs cells slots Q (F0 m pc ls st0) := by
  intro T hT X
  obtain ⟨v, st₀, t, T', L, h0, X', hL, e1, e2, ⟨hv, hz, hh, hb⟩, stp⟩ := hr H locs ls hok hls h1 h2 T hT X
  cases hv
  obtain ⟨t2, a1, b1⟩ := kk T'.heap (locs ++ L) ⟨by rw [e1]; exact hz, by rw [e1]; exact hh, hok.2.2.1, Nat.le_trans hok.2.2.2.1 (Nat.le_add_right _ _), fun q hq => by rw [e1, hb q hq, h0]; exact hok.2.2.2.2.1 q hq, fun q hq => by
    rcases List.mem_append.mp hq with h | h
    · exact hok.2.2.2.2.2 q h
    · exact hL q h⟩ T' rfl X'
  exact ⟨t2, stp t2 a1, b1⟩
theorem mg_callR {α : Type} {f : α → Option Value} {x : Option α} {K : α → Option ρ} {rest st0 : List Value} (hr : ∀ r, x = some r → mg_Run E p l e R s m args below meth c nL (mg_oR f w r) w sz cells slots pc st0 rest)
    (kk : ∀ r, x = some r → mg_G E p l e R s m args below meth c nL out (K r) w sz cells slots (pc + 3) L ((f r).toList ++ rest)) : mg_G E p l e R s m args below meth c nL out (x.bind K) w sz cells slots pc L st0 := fun o hf h1 h2 H locs ls hok hl => by
  obtain ⟨r, hx, hf⟩ := Option.bind_eq_some_iff.mp hf
  exact mg_after (hr r hx) hok hl.1 (by show cells + 0 ≤ _; omega) (by show slots + 0 ≤ _; omega) (fun H1 locs1 hok1 => kk r hx o hf h1 h2 H1 locs1 ls hok1 hl)
theorem mg_callS {α : Type} {f : α → Option Value} {x : Option (α × mg_H)} {K : α → mg_H → Option ρ} {rest st0 : List Value} (hr : ∀ r, x = some r → mg_Run E p l e R s m args below meth c nL (mg_oS f r) w sz cells slots pc st0 rest)
    (kk : ∀ r w2, x = some (r, w2) → mg_G E p l e R s m args below meth c nL out (K r w2) w2 sz cells slots (pc + 3) L ((f r).toList ++ rest)) : mg_G E p l e R s m args below meth c nL out (x.bind fun o => K o.1 o.2) w sz cells slots pc L st0 := fun o hf h1 h2 H locs ls hok hl => by
  obtain ⟨r, hx, hf⟩ := Option.bind_eq_some_iff.mp hf
  exact mg_after (hr r hx) hok hl.1 (by show cells + 0 ≤ _; omega) (by show slots + 0 ≤ _; omega) (fun H1 locs1 hok1 => kk r.1 r.2 hx o hf h1 h2 H1 locs1 ls hok1 hl)
theorem mg_callA {α β : Type} {f : α → Option Value} {f2 : β → Option Value} {x : Option (α × mg_H × Nat × Nat)} {K : α → mg_H → Nat → Nat → Option (β × mg_H × Nat × Nat)} {rest st0 : List Value} (hr : ∀ r, x = some r → mg_Run E p l e R s m args below meth c nL (mg_oA f r) w sz cells slots pc st0 rest)
    (kk : ∀ r w2 kc ks, x = some (r, w2, kc, ks) → mg_G E p l e R s m args below meth c nL (mg_oA f2) (K r w2 kc ks) w2 (sz + kc) (cells + kc) (slots + ks) (pc + 3) L ((f r).toList ++ rest)) : mg_G E p l e R s m args below meth c nL (mg_oA f2) (x.bind fun o => mg_bmp o.2.2.1 o.2.2.2 (K o.1 o.2.1 o.2.2.1 o.2.2.2)) w sz cells slots pc L st0 := fun o hf h1 h2 H locs ls hok hl => by
  obtain ⟨r, hx, hf⟩ := Option.bind_eq_some_iff.mp hf
  obtain ⟨o2, hf2, rfl⟩ := Option.map_eq_some_iff.mp hf
  have h1' : cells + (r.2.2.1 + o2.2.2.1) ≤ R.cells := h1
  have h2' : slots + (r.2.2.2 + o2.2.2.2) ≤ R.slots := h2
  refine mg_after (hr r hx) hok hl.1 (by show cells + r.2.2.1 ≤ _; omega) (by show slots + r.2.2.2 ≤ _; omega) (fun H1 locs1 hok1 => ?_)
  have q := kk r.1 r.2.1 r.2.2.1 r.2.2.2 hx o2 hf2 (by show cells + r.2.2.1 + o2.2.2.1 ≤ _; omega) (by show slots + r.2.2.2 + o2.2.2.2 ≤ _; omega) H1 locs1 ls hok1 hl
  have e1 : mg_Z E s args below (mg_oA f2 o2) (sz + r.2.2.1) (cells + r.2.2.1) (slots + r.2.2.2) = mg_Z E s args below (mg_oA f2 (o2.1, o2.2.1, r.2.2.1 + o2.2.2.1, r.2.2.2 + o2.2.2.2)) sz cells slots := by
    unfold mg_Z mg_oA
    show MQ below (mg_Qc E (f2 o2.1) o2.2.1 (sz + r.2.2.1 + o2.2.2.1)) args s (cells + r.2.2.1 + o2.2.2.1) (slots + r.2.2.2 + o2.2.2.2) _ = MQ below (mg_Qc E (f2 o2.1) o2.2.1 (sz + (r.2.2.1 + o2.2.2.1))) args s (cells + (r.2.2.1 + o2.2.2.1)) (slots + (r.2.2.2 + o2.2.2.2)) _
    rw [Nat.add_assoc, Nat.add_assoc, Nat.add_assoc]
  rw [e1] at q
  exact q
theorem mg_objInit (hC : mg_Cx E p s m args meth c cc nL ret own) {idx a : Nat} (hlink : Cond.methodLink own idx Lib.objectInit ∈ mg_ws) (hinst : Cond.instanceMethod Lib.objectInit ∈ mg_ws) (hcode : Cond.code Lib.objectInit ⟨#[0xb1]⟩ 1 none ∈ mg_ws) (hfr : 1 ≤ R.frames) (hlo : (st.map fun v => v.category).sum + 12 ≤ R.locals) (hdg : decode cc pc = .ok (.invokespecial idx, 3)) (k : mg_G E p l e R s m args below meth c nL out F w sz cells slots (pc + 3) L st) : mg_G E p l e R s m args below meth c nL out F w sz cells slots pc L (.ref a :: st) := fun o hf h1 h2 H locs ls hok hl => by
  have hts := hC.2.2.2.2.1
  exact W.objInit hC.1 hC.2.1 hC.2.2.2.1 (hts _ hlink) (hts _ hinst) (hts _ hcode) rfl (by rw [hC.2.2.1]; exact hl.1) rfl hdg hfr (by show 2 * 0 + _ + 12 ≤ _; omega) (k o hf h1 h2 H locs ls hok hl)
end MGK
/-- a method's contract out of the judgement at its entry -/
theorem mg_meth {ρ : Type} {out : ρ → mg_R} {F : Option ρ} {o : ρ} {E : mg_P} {l : Launch} {y : MethodName} {cc : ByteArray} {maxL : Nat} {ret : Option FieldType} {fr lo : Nat} {av : List Value} {w : mg_H} {sz : Nat} (hy : plainName y.cls = true) (hln : (lg_sl av).length ≤ maxL) (hf : F = some o)
    (body : ∀ (p : Program) (e : Env) (C S : Nat) (s : State) (m : MethodId) (below : List Frame) (meth : Method) (c : Code), mg_Cx E p s m av.toArray meth c cc maxL ret y.cls → meth.name = y.name → mg_G E p l e ({ frames := fr, cells := C, slots := S, locals := lo } : Room) s m av.toArray below meth c maxL out F w sz 0 0 0 (lv_args 0 av) []) : mg_C E l y cc maxL ret fr lo av w sz (out o) := by
  unfold mg_C
  refine Met.ofW (cc := cc) (maxL := maxL) (ret := ret) hy rfl ?_
  intro p e s m args below meth c s₁ B hml hv
  obtain ⟨rfl, hsz, hh, hB, hT⟩ := hv
  have hts := atoms_spec (ws := .code y cc maxL ret :: mg_ws) B.pre
  have hown : s.vm.findClass y.cls = some m.cls := findClass_of_methodNamed B.named
  have hnm : meth.name = y.name := (name_of_methodNamed B.named B.method).1
  have hl := lv_entry av (n := maxL) hln
  rw [lg_entry_eq]
  have q := body p e (out o).2.2.1 (out o).2.2.2 s m below meth c ⟨B.exec, B.bytes, hml, hown, fun x hx => hts x (List.mem_cons_of_mem _ hx), hT, B.returns, B.notSynchronized⟩ hnm o hf (Nat.le_of_eq (Nat.zero_add _)) (Nat.le_of_eq (Nat.zero_add _)) s.heap [] _ ⟨hsz, hh, by omega, by omega, fun _ _ => rfl, fun _ h => by cases h⟩ hl
  unfold mg_Z at q
  rw [Nat.zero_add, Nat.zero_add] at q
  exact q
