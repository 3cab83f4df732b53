/-! Worlds as maps from addresses to cells; the judgement mg_G: 'if the function F answers o, the machine comes from here to the method's end with o'. -/
abbrev mg_E : Type := (Nat × List Value) ⊕ (Nat × vp_A)
abbrev mg_H : Type := Nat → Option mg_E
abbrev mg_P : Type := va_G × (Nat → ClassId) × Nat
def mg_to (ids : Nat → ClassId) (e : mg_E) : va_E := match e with
  | .inl o => .inr o
  | .inr a => .inl (ids a.1, a.2)
def mg_tys (ids : Nat → ClassId) : List (ClassId × FieldType) := [(ids 0, .int), (ids 1, .boolean), (ids 2, .long), (ids 3, .object RX2), (ids 4, .object RX1)]
def mg_set (w : mg_H) (a : Nat) (e : mg_E) : mg_H := fun q => if q = a then some e else w q
def mg_ws : List Cond := lw_tbl.filter goodWord
theorem mg_in {w : Cond} (i : Nat) (h : lw_tbl[i]? = some w) (g : goodWord w = true) : w ∈ mg_ws := List.mem_filter.mpr ⟨List.mem_of_getElem? h, g⟩
theorem mg_good {y : MethodName} {cc : ByteArray} {n : Nat} {r : Option FieldType} (h : Cond.code y cc n r ∈ mg_ws) : GoodIn mg_ws (Cond.code y cc n r :: mg_ws) := by
  intro w hw
  have hm : w ∈ mg_ws := by
    rcases List.mem_cons.mp hw with rfl | q
    · exact h
    · exact q
  exact ⟨hm, good_of_word (List.mem_filter.mp hm).2⟩
/-- what the tables say, beside the words: the classes, the array classes, the private methods of nest mates -/
def mg_Tb (E : mg_P) (U : State) : Prop := va_K E.1 vwCl (mg_tys E.2.1) U ∧ (∀ q ∈ mg_nest, va_Nw (.methodLinkNest q.1 q.2.1 q.2.2.1 q.2.2.2) U) ∧ va_AO RX2 U ∧ va_AO RX1 U
theorem mg_Tb.warm {E : mg_P} {s U : State} (hW : s.WarmedH U.vm) (h : mg_Tb E s) : mg_Tb E U := ⟨va_K.moved hW.alike h.1, fun q hq => va_Nw.warmM hW (h.2.1 q hq), va_AO.moved hW.alike h.2.2.1, va_AO.moved hW.alike h.2.2.2⟩
theorem mg_Tb.same {E : mg_P} {s U : State} (hv : s.vm = U.vm) (h : mg_Tb E s) : mg_Tb E U := ⟨va_K.moved (by rw [← hv]; exact Vm.Alike.refl _) h.1, fun q hq => va_Nw.same rfl hv (h.2.1 q hq), va_AO.moved (by rw [← hv]; exact Vm.Alike.refl _) h.2.2.1, va_AO.moved (by rw [← hv]; exact Vm.Alike.refl _) h.2.2.2⟩
/-- the heap holds the world -/
def mg_Hd (E : mg_P) (w : mg_H) (H : Heap) : Prop := ∀ (a : Nat) (e : mg_E), w a = some e → va_at E.1 vwCl (a, mg_to E.2.1 e) H ∧ E.2.2 ≤ a
def mg_Ok (E : mg_P) (w : mg_H) (sz : Nat) (s : State) (H : Heap) (locs : List Loc) : Prop := H.size = sz ∧ mg_Hd E w H ∧ E.2.2 ≤ s.heap.size ∧ s.heap.size ≤ sz ∧ (∀ q : Nat, q < E.2.2 → H[q]? = s.heap[q]?) ∧ ∀ l ∈ locs, E.2.2 ≤ l.base
theorem mg_Hd.lt {E : mg_P} {w : mg_H} {H : Heap} (h : mg_Hd E w H) {a : Nat} {e : mg_E} (ha : w a = some e) : a < H.size := (h a e ha).1.lt
theorem mg_Ok.put {E : mg_P} {w : mg_H} {sz : Nat} {s : State} {H H1 : Heap} {locs : List Loc} (h : mg_Ok E w sz s H locs) {a k : Nat} {e0 e : mg_E} (ha : w a = some e0) (z : H1.size = H.size) (oq : ∀ q : Nat, q ≠ a → H1[q]? = H[q]?) (he : va_at E.1 vwCl (a, mg_to E.2.1 e) H1) : mg_Ok E (mg_set w a e) sz s H1 (locs ++ [⟨a, k⟩]) := by
  obtain ⟨h1, h2, h3, h4, h5, h6⟩ := h
  have hB := (h2 a e0 ha).2
  refine ⟨z.trans h1, fun b f hb => ?_, h3, h4, fun q hq => ?_, fun q hq => ?_⟩
  · by_cases hab : b = a
    · subst hab
      rw [mg_set, if_pos rfl] at hb
      cases hb
      exact ⟨he, hB⟩
    · rw [mg_set, if_neg hab] at hb
      exact ⟨(h2 b f hb).1.kept (oq b hab), (h2 b f hb).2⟩
  · rw [oq q (by omega)]; exact h5 q hq
  · rcases List.mem_append.mp hq with h7 | h7
    · exact h6 q h7
    · rw [List.mem_singleton.mp h7]; exact hB
theorem mg_Ok.push {E : mg_P} {w : mg_H} {sz : Nat} {s : State} {H H1 : Heap} {locs : List Loc} (h : mg_Ok E w sz s H locs) {e : mg_E} (z : H1.size = sz + 1) (oq : ∀ q : Nat, q < sz → H1[q]? = H[q]?) (he : va_at E.1 vwCl (sz, mg_to E.2.1 e) H1) : mg_Ok E (mg_set w sz e) (sz + 1) s H1 locs := by
  obtain ⟨h1, h2, h3, h4, h5, h6⟩ := h
  refine ⟨z, fun b f hb => ?_, h3, by omega, fun q hq => ?_, h6⟩
  · by_cases hab : b = sz
    · subst hab
      rw [mg_set, if_pos rfl] at hb
      cases hb
      exact ⟨he, by omega⟩
    · rw [mg_set, if_neg hab] at hb
      have hl := h2.lt hb
      exact ⟨(h2 b f hb).1.kept (oq b (by omega)), (h2 b f hb).2⟩
  · rw [oq q (by omega)]; exact h5 q hq
/-- a method's start and end -/
def mg_Pc (E : mg_P) (av : List Value) (w : mg_H) (sz : Nat) : Array Value → State → Prop := fun v U => v = av.toArray ∧ U.heap.size = sz ∧ mg_Hd E w U.heap ∧ E.2.2 ≤ sz ∧ mg_Tb E U
def mg_Qc (E : mg_P) (r : Option Value) (w : mg_H) (sz : Nat) : Array Value → State → Outcome → State → Prop := fun _ st oc t => oc = .returned r ∧ t.heap.size = sz ∧ mg_Hd E w t.heap ∧ ∀ q : Nat, q < E.2.2 → t.heap[q]? = st.heap[q]?
abbrev mg_R : Type := Option Value × mg_H × Nat × Nat
/-- the contract of a method y at arguments av in the world w: it comes to o -/
def mg_C (E : mg_P) (l : Launch) (y : MethodName) (cc : ByteArray) (maxL : Nat) (ret : Option FieldType) (fr lo : Nat) (av : List Value) (w : mg_H) (sz : Nat) (o : mg_R) : Prop :=
  Met l y (.code y cc maxL ret :: mg_ws) ({ frames := fr, cells := o.2.2.1, slots := o.2.2.2, locals := lo } : Room) (mg_Pc E av w sz) (mg_Qc E o.1 o.2.1 (sz + o.2.2.1)) o.2.2.1 o.2.2.2 (fun q => E.2.2 ≤ q)
theorem mg_blind {E : mg_P} {av : List Value} {w : mg_H} {sz : Nat} : FrameBlind (mg_Pc E av w sz) := fun a U g mk q => by
  obtain ⟨q0, q1, q2, q3, q4⟩ := q
  exact ⟨q0, q1, q2, q3, mg_Tb.same (s := U) (U := U.calling g mk a) rfl q4⟩
/-- what stays the same within a method's body -/
def mg_Cx (E : mg_P) (p : Program) (s : State) (m : MethodId) (args : Array Value) (meth : Method) (c : Code) (cc : ByteArray) (nL : Nat) (ret : Option FieldType) (own : String) : Prop :=
  p.tables.exec = Jvm.exec ∧ c.code = cc ∧ c.maxLocals = nL ∧ s.vm.findClass own = some m.cls ∧ (∀ w ∈ mg_ws, w.before args s = true) ∧ mg_Tb E s ∧ meth.sig.returnType = ret ∧ meth.locks = false
def mg_V (E : mg_P) (p : Program) (l : Launch) (e : Env) (R : Room) (s : State) (m : MethodId) (args : Array Value) (below : List Frame) (meth : Method) (c : Code) (nL : Nat) (Q : State → Prop) (w : mg_H) (sz cells slots pc : Nat) (L : List (Nat × Value)) (st : List Value) : Prop :=
  ∀ (H : Heap) (locs : List Loc) (ls : Array Slot), mg_Ok E w sz s H locs → lv_has ls nL L → W p l e R s m args below meth c H locs cells slots Q (F0 m pc ls st)
/-- where a method ends with o, from a place with so many cells and slots made -/
def mg_Z (E : mg_P) (s : State) (args : Array Value) (below : List Frame) (o : mg_R) (sz cells slots : Nat) : State → Prop := MQ below (mg_Qc E o.1 o.2.1 (sz + o.2.2.1)) args s (cells + o.2.2.1) (slots + o.2.2.2) (fun q => E.2.2 ≤ q)
def mg_G {ρ : Type} (E : mg_P) (p : Program) (l : Launch) (e : Env) (R : Room) (s : State) (m : MethodId) (args : Array Value) (below : List Frame) (meth : Method) (c : Code) (nL : Nat) (out : ρ → mg_R) (F : Option ρ) (w : mg_H) (sz cells slots pc : Nat) (L : List (Nat × Value)) (st : List Value) : Prop :=
  ∀ o : ρ, F = some o → cells + (out o).2.2.1 ≤ R.cells → slots + (out o).2.2.2 ≤ R.slots → mg_V E p l e R s m args below meth c nL (mg_Z E s args below (out o) sz cells slots) w sz cells slots pc L st
/-- what a method's function answers: a value alone (the world stays), a value and a world, these and how many cells and slots came -/
def mg_oR {α : Type} (f : α → Option Value) (w : mg_H) : α → mg_R := fun a => (f a, w, 0, 0)
def mg_oS {α : Type} (f : α → Option Value) : α × mg_H → mg_R := fun o => (f o.1, o.2, 0, 0)
def mg_oA {α : Type} (f : α → Option Value) : α × mg_H × Nat × Nat → mg_R := fun o => (f o.1, o.2)
def mg_vI (r : Int32) : Option Value := some (.int r)
def mg_vL (r : Int64) : Option Value := some (.long r)
def mg_vN (r : Nat) : Option Value := some (.ref r)
def mg_vQ (r : Option Nat) : Option Value := some (va_rf r)
def mg_vV (_ : Unit) : Option Value := none
def mg_bmp {α : Type} (k n : Nat) (o : Option (α × mg_H × Nat × Nat)) : Option (α × mg_H × Nat × Nat) := o.map fun o => (o.1, o.2.1, k + o.2.2.1, n + o.2.2.2)
/-- reading and writing the world -/
def mg_obj (w : mg_H) (ci a : Nat) : Option (List Value) := match w a with
  | some (.inl (c, fs)) => if c = ci then some fs else none
  | _ => none
def mg_arI (w : mg_H) (kd a : Nat) : Option (Nat × (Nat → Int32)) := match w a with
  | some (.inr (k, n, .inl f)) => if k = kd then some (n, f) else none
  | _ => none
def mg_arL (w : mg_H) (a : Nat) : Option (Nat × (Nat → Int64)) := match w a with
  | some (.inr (2, n, .inr (.inl f))) => some (n, f)
  | _ => none
def mg_arQ (w : mg_H) (kd a : Nat) : Option (Nat × (Nat → Option Nat)) := match w a with
  | some (.inr (k, n, .inr (.inr (.inr (.inr f))))) => if k = kd then some (n, f) else none
  | _ => none
def mg_gI (w : mg_H) (ci a k : Nat) : Option Int32 := (mg_obj w ci a).bind fun fs => match fs[k]? with
  | some (.int v) => some v
  | _ => none
def mg_gQ (w : mg_H) (ci a k : Nat) : Option (Option Nat) := (mg_obj w ci a).bind fun fs => match fs[k]? with
  | some (.ref v) => some (some v)
  | some .null => some none
  | _ => none
def mg_pI (w : mg_H) (ci a k : Nat) (v : Int32) : Option mg_H := (mg_obj w ci a).bind fun fs => if k < fs.length then some (mg_set w a (.inl (ci, fs.set k (.int v)))) else none
def mg_pQ (w : mg_H) (ci a k : Nat) (v : Option Nat) : Option mg_H := (mg_obj w ci a).bind fun fs => if k < fs.length then some (mg_set w a (.inl (ci, fs.set k (va_rf v)))) else none
def mg_ix (i : Int32) (n : Nat) : Option Nat := if i < 0 then none else if i.toNatClampNeg < n then some i.toNatClampNeg else none
def mg_ldI (w : mg_H) (kd a : Nat) (i : Int32) : Option Int32 := (mg_arI w kd a).bind fun x => (mg_ix i x.1).map x.2
def mg_ldL (w : mg_H) (a : Nat) (i : Int32) : Option Int64 := (mg_arL w a).bind fun x => (mg_ix i x.1).map x.2
def mg_ldQ (w : mg_H) (kd a : Nat) (i : Int32) : Option (Option Nat) := (mg_arQ w kd a).bind fun x => (mg_ix i x.1).map x.2
def mg_stI (w : mg_H) (a : Nat) (i v : Int32) : Option mg_H := (mg_arI w 0 a).bind fun x => (mg_ix i x.1).map fun k => mg_set w a (.inr (0, x.1, .inl (upd x.2 k v)))
def mg_stZ (w : mg_H) (a : Nat) (i v : Int32) : Option mg_H := (mg_arI w 1 a).bind fun x => (mg_ix i x.1).map fun k => mg_set w a (.inr (1, x.1, .inl (upd x.2 k (vp_nar .boolean v))))
def mg_stL (w : mg_H) (a : Nat) (i : Int32) (v : Int64) : Option mg_H := (mg_arL w a).bind fun x => (mg_ix i x.1).map fun k => mg_set w a (.inr (2, x.1, .inr (.inl (vp_updL x.2 k v))))
def mg_stQ (w : mg_H) (kd ci a : Nat) (i : Int32) (v : Nat) : Option mg_H := (mg_arQ w kd a).bind fun x => (mg_ix i x.1).bind fun k => (mg_obj w ci v).map fun _ => mg_set w a (.inr (kd, x.1, .inr (.inr (.inr (.inr (va_up x.2 k (some v)))))))
def mg_len (w : mg_H) (a : Nat) : Option Int32 := match w a with
  | some (.inr (k, x)) => if k < 5 then some (Int32.ofNat x.1) else none
  | _ => none
def mg_nn {α : Type} (r : Option Nat) (K : Nat → Option α) : Option α := match r with
  | none => none
  | some a => K a
def mg_if0 {α : Type} (r : Option Nat) (A : Option α) (K : Nat → Option α) : Option α := match r with
  | none => A
  | some a => K a
theorem mg_ix_some {i : Int32} {n k : Nat} (h : mg_ix i n = some k) : vp_in i n ∧ k = i.toNatClampNeg := by
  unfold mg_ix at h
  by_cases h1 : i < 0
  · rw [if_pos h1] at h; cases h
  · rw [if_neg h1] at h
    by_cases h2 : i.toNatClampNeg < n
    · rw [if_pos h2] at h
      exact ⟨fun q => q.elim h1 (fun z => by omega), (Option.some.inj h).symm⟩
    · rw [if_neg h2] at h; cases h
theorem mg_obj_some {w : mg_H} {ci a : Nat} {fs : List Value} (h : mg_obj w ci a = some fs) : w a = some (.inl (ci, fs)) := by
  unfold mg_obj at h
  split at h
  · rename_i c fs' he
    by_cases hc : c = ci
    · rw [if_pos hc] at h; cases h; rw [he, hc]
    · rw [if_neg hc] at h; cases h
  · cases h
theorem mg_arI_some {w : mg_H} {kd a : Nat} {x : Nat × (Nat → Int32)} (h : mg_arI w kd a = some x) : w a = some (.inr (kd, x.1, .inl x.2)) := by
  unfold mg_arI at h
  split at h
  · rename_i k n f he
    by_cases hc : k = kd
    · rw [if_pos hc] at h; cases h; rw [he, hc]
    · rw [if_neg hc] at h; cases h
  · cases h
theorem mg_arL_some {w : mg_H} {a : Nat} {x : Nat × (Nat → Int64)} (h : mg_arL w a = some x) : w a = some (.inr (2, x.1, .inr (.inl x.2))) := by
  unfold mg_arL at h
  split at h
  · rename_i n f he
    cases h; exact he
  · cases h
theorem mg_arQ_some {w : mg_H} {kd a : Nat} {x : Nat × (Nat → Option Nat)} (h : mg_arQ w kd a = some x) : w a = some (.inr (kd, x.1, .inr (.inr (.inr (.inr x.2))))) := by
  unfold mg_arQ at h
  split at h
  · rename_i k n f he
    by_cases hc : k = kd
    · rw [if_pos hc] at h; cases h; rw [he, hc]
    · rw [if_neg hc] at h; cases h
  · cases h
theorem mg_gI_some {w : mg_H} {ci a k : Nat} {v : Int32} (h : mg_gI w ci a k = some v) : ∃ fs, w a = some (.inl (ci, fs)) ∧ fs[k]? = some (.int v) := by
  obtain ⟨fs, h1, h2⟩ := Option.bind_eq_some_iff.mp h
  refine ⟨fs, mg_obj_some h1, ?_⟩
  split at h2
  · rename_i x hx
    cases h2; exact hx
  · cases h2
theorem mg_gQ_some {w : mg_H} {ci a k : Nat} {v : Option Nat} (h : mg_gQ w ci a k = some v) : ∃ fs, w a = some (.inl (ci, fs)) ∧ fs[k]? = some (va_rf v) := by
  obtain ⟨fs, h1, h2⟩ := Option.bind_eq_some_iff.mp h
  refine ⟨fs, mg_obj_some h1, ?_⟩
  split at h2
  · rename_i x hx
    cases h2; exact hx
  · rename_i hx
    cases h2; exact hx
  · cases h2
