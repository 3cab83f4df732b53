section MG00
variable {E : mg_P} {p : Program} {l : Launch} {e : Env} {C S : Nat} {s : State} {m : MethodId} {args : Array Value} {below : List Frame} {meth : Method} {c : Code}
def fX0_join (x0 : Nat) (x1 : Int32) (x2 : Int32) (w : mg_H) : Option (Unit × mg_H) := (mg_gI w 0 x0 3).bind fun v1 => if (236 : Int32) ≤ v1 then (some ((), w)) else (mg_gN w 0 x0 0 fun v2 => (mg_gI w 0 x0 3).bind fun v3 => (mg_stI w v2 v3 x1).bind fun w4 => mg_gN w4 0 x0 1 fun v5 => (mg_gI w4 0 x0 3).bind fun v6 => (mg_stI w4 v5 v6 x2).bind fun w7 => (mg_gI w7 0 x0 3).bind fun v8 => (mg_pI w7 0 x0 3 (v8 + (1 : Int32))).bind fun w9 => some ((), w9))
set_option maxHeartbeats 4000000 in
set_option maxRecDepth 100000 in
theorem kX0_join {E : mg_P} {l : Launch} {x0 : Nat} {x1 : Int32} {x2 : Int32} {w : mg_H} {sz : Nat} {o : Unit × mg_H} (hf : fX0_join x0 x1 x2 w = some o) : mg_C E l yX0_join cX0_join 3 none 0 0 [.ref x0, .int x1, .int x2] w sz ((mg_oS mg_vV) o) := by
  refine mg_meth (out := (mg_oS mg_vV)) (by decide) (Nat.le_of_ble_eq_true rfl) hf ?_
  intro p e C S s m below meth c hC hin
  have hC : mg_Cx E p s m _ meth c cX0_join 3 none RX0 := hC
  unfold fX0_join
  refine mg_sub (pc := 0) [0, 1, 2] (L' := [(0, .ref x0), (1, .int x1), (2, .int x2)]) rfl ?_
  refine mg_aload_n (pc := 0) hC 0 dX0_join_0 rfl ?_
  refine mg_getI (pc := 1) (ci := 0) (k := 3) hC mi_0 rfl (by decide) mw_227 dX0_join_1 (fun v1 _ => ?_)
  refine mg_sipush (pc := 4) hC (236 : Int32) dX0_join_4 (by decide) ?_
  refine mg_icmp_ge (pc := 7) hC 40 dX0_join_7 (by decide) (fun _ => ?_) (fun _ => ?_)
  · exact mg_vret (pc := 40) hC rfl dX0_join_40
  · refine mg_aload_n (pc := 10) hC 0 dX0_join_10 rfl ?_
    refine mg_getNN (pc := 11) (ci := 0) (k := 0) hC mi_0 rfl (by decide) mw_224 dX0_join_11 (fun v2 _ => ?_)
    refine mg_aload_n (pc := 14) hC 0 dX0_join_14 rfl ?_
    refine mg_getI (pc := 15) (ci := 0) (k := 3) hC mi_0 rfl (by decide) mw_227 dX0_join_15 (fun v3 _ => ?_)
    refine mg_iload_n (pc := 18) hC 1 dX0_join_18 rfl ?_
    refine mg_iast (pc := 19) hC dX0_join_19 (fun w4 _ => ?_)
    refine mg_aload_n (pc := 20) hC 0 dX0_join_20 rfl ?_
    refine mg_getNN (pc := 21) (ci := 0) (k := 1) hC mi_0 rfl (by decide) mw_225 dX0_join_21 (fun v5 _ => ?_)
    refine mg_aload_n (pc := 24) hC 0 dX0_join_24 rfl ?_
    refine mg_getI (pc := 25) (ci := 0) (k := 3) hC mi_0 rfl (by decide) mw_227 dX0_join_25 (fun v6 _ => ?_)
    refine mg_iload_n (pc := 28) hC 2 dX0_join_28 rfl ?_
    refine mg_iast (pc := 29) hC dX0_join_29 (fun w7 _ => ?_)
    refine mg_aload_n (pc := 30) hC 0 dX0_join_30 rfl ?_
    refine mg_dup (pc := 31) hC dX0_join_31 rfl ?_
    refine mg_getI (pc := 32) (ci := 0) (k := 3) hC mi_0 rfl (by decide) mw_227 dX0_join_32 (fun v8 _ => ?_)
    refine mg_iconst (pc := 35) hC (1 : Int32) dX0_join_35 (by decide) ?_
    refine mg_iadd (pc := 36) hC dX0_join_36 ?_
    refine mg_putI (pc := 37) (ci := 0) (k := 3) hC mi_0 rfl (by decide) tyX0 tyX0_ok nmX0 mw_227 dX0_join_37 (Or.inl rfl) rfl (fun w9 _ => ?_)
    exact mg_vret (pc := 40) hC rfl dX0_join_40
theorem wdX0_join : mg_WdV 0 yX0_join cX0_join 3 none 2 := ⟨⟨mw_204, mw_5, by decide, by decide, by decide +kernel⟩, _, rfl, mw_203, mw_p7⟩
def fX3_ones (x0 : Int32) : Option (Int32) := some (((1 : Int32) <<< (x0 &&& 31)) - (1 : Int32))
set_option maxHeartbeats 4000000 in
set_option maxRecDepth 100000 in
theorem kX3_ones {E : mg_P} {l : Launch} {x0 : Int32} {w : mg_H} {sz : Nat} {o : Int32} (hf : fX3_ones x0 = some o) : mg_C E l yX3_ones cX3_ones 1 (some .int) 0 0 [.int x0] w sz ((mg_oR mg_vI w) o) := by
  refine mg_meth (out := (mg_oR mg_vI w)) (by decide) (Nat.le_of_ble_eq_true rfl) hf ?_
  intro p e C S s m below meth c hC hin
  have hC : mg_Cx E p s m _ meth c cX3_ones 1 (some .int) RX3 := hC
  unfold fX3_ones
  refine mg_sub (pc := 0) [0] (L' := [(0, .int x0)]) rfl ?_
  refine mg_iconst (pc := 0) hC (1 : Int32) dX3_ones_0 (by decide) ?_
  refine mg_iload_n (pc := 1) hC 0 dX3_ones_1 rfl ?_
  refine mg_ishl (pc := 2) hC dX3_ones_2 ?_
  refine mg_iconst (pc := 3) hC (1 : Int32) dX3_ones_3 (by decide) ?_
  refine mg_isub (pc := 4) hC dX3_ones_4 ?_
  exact mg_iret (pc := 5) hC rfl dX3_ones_5
theorem wdX3_ones : mg_Wd yX3_ones cX3_ones 1 (some .int) 1 := ⟨mw_122, mw_1, by decide, by decide, by decide +kernel⟩
def fX3_twice (x0 : Int32) (x1 : Int32) : Option (Int32) := if ((2 : Int32) * x0) < x1 then (some ((2 : Int32) * x0)) else (some (((2 : Int32) * x0) - x1))
set_option maxHeartbeats 4000000 in
set_option maxRecDepth 100000 in
theorem kX3_twice {E : mg_P} {l : Launch} {x0 : Int32} {x1 : Int32} {w : mg_H} {sz : Nat} {o : Int32} (hf : fX3_twice x0 x1 = some o) : mg_C E l yX3_twice cX3_twice 3 (some .int) 0 0 [.int x0, .int x1] w sz ((mg_oR mg_vI w) o) := by
  refine mg_meth (out := (mg_oR mg_vI w)) (by decide) (Nat.le_of_ble_eq_true rfl) hf ?_
  intro p e C S s m below meth c hC hin
  have hC : mg_Cx E p s m _ meth c cX3_twice 3 (some .int) RX3 := hC
  unfold fX3_twice
  refine mg_sub (pc := 0) [0, 1] (L' := [(0, .int x0), (1, .int x1)]) rfl ?_
  refine mg_iconst (pc := 0) hC (2 : Int32) dX3_twice_0 (by decide) ?_
  refine mg_iload_n (pc := 1) hC 0 dX3_twice_1 rfl ?_
  refine mg_imul (pc := 2) hC dX3_twice_2 ?_
  refine mg_istore_n (pc := 3) hC [(2, .int ((2 : Int32) * x0)), (0, .int x0), (1, .int x1)] dX3_twice_3 (by decide) rfl ?_
  refine mg_iload_n (pc := 4) hC 0 dX3_twice_4 rfl ?_
  refine mg_iload_n (pc := 5) hC 2 dX3_twice_5 rfl ?_
  refine mg_icmp_lt (pc := 6) hC 15 dX3_twice_6 (by decide) (fun _ => ?_) (fun _ => ?_)
  · refine mg_iload_n (pc := 15) hC 0 dX3_twice_15 rfl ?_
    exact mg_iret (pc := 16) hC rfl dX3_twice_16
  · refine mg_iload_n (pc := 9) hC 0 dX3_twice_9 rfl ?_
    refine mg_iload_n (pc := 10) hC 2 dX3_twice_10 rfl ?_
    refine mg_isub (pc := 11) hC dX3_twice_11 ?_
    refine mg_goto (pc := 12) hC 16 dX3_twice_12 (by decide) ?_
    exact mg_iret (pc := 16) hC rfl dX3_twice_16
theorem wdX3_twice : mg_Wd yX3_twice cX3_twice 3 (some .int) 2 := ⟨mw_65, mw_1, by decide, by decide, by decide +kernel⟩
def fX2_lengthOfRing_b8 : Nat → Int32 → Int32 → Int32 → Int32 → Option (Int32)
  | 0, _, _, _, _ => none
  | n + 1, x0, x1, x2, x3 => if x1 ≤ x3 then (some x3) else (if x2 = x0 then (some x3) else ((fX3_twice x2 x1).bind fun v1 => fX2_lengthOfRing_b8 n x0 x1 v1 (x3 + (1 : Int32))))
set_option maxHeartbeats 4000000 in
set_option maxRecDepth 100000 in
theorem gX2_lengthOfRing_b8 (hC : mg_Cx E p s m args meth c cX2_lengthOfRing 4 (some .int) RX2) (w : mg_H) (sz : Nat) : ∀ (n : Nat) (x0 : Int32) (x1 : Int32) (x2 : Int32) (x3 : Int32) (cells slots : Nat), mg_G E p l e ({ frames := 1, cells := C, slots := S, locals := 22 } : Room) s m args below meth c 4 (mg_oR mg_vI w) (fX2_lengthOfRing_b8 n x0 x1 x2 x3) w sz cells slots 8 [(0, .int x0), (1, .int x1), (2, .int x2), (3, .int x3)] [] := by
  intro n
  induction n with
  | zero => intros; exact fun o hf => by rw [fX2_lengthOfRing_b8] at hf; cases hf
  | succ n ih =>
    intro x0 x1 x2 x3 cells slots
    rw [fX2_lengthOfRing_b8]
    refine mg_iload_n (pc := 8) hC 3 dX2_lengthOfRing_8 rfl ?_
    refine mg_iload_n (pc := 9) hC 1 dX2_lengthOfRing_9 rfl ?_
    refine mg_icmp_ge (pc := 10) hC 30 dX2_lengthOfRing_10 (by decide) (fun _ => ?_) (fun _ => ?_)
    · refine mg_iload_n (pc := 30) hC 3 dX2_lengthOfRing_30 rfl ?_
      exact mg_iret (pc := 31) hC rfl dX2_lengthOfRing_31
    · refine mg_iload_n (pc := 13) hC 2 dX2_lengthOfRing_13 rfl ?_
      refine mg_iload_n (pc := 14) hC 0 dX2_lengthOfRing_14 rfl ?_
      refine mg_icmp_eq (pc := 15) hC 30 dX2_lengthOfRing_15 (by decide) (fun _ => ?_) (fun _ => ?_)
      · refine mg_iload_n (pc := 30) hC 3 dX2_lengthOfRing_30 rfl ?_
        exact mg_iret (pc := 31) hC rfl dX2_lengthOfRing_31
      · refine mg_iload_n (pc := 18) hC 2 dX2_lengthOfRing_18 rfl ?_
        refine mg_iload_n (pc := 19) hC 1 dX2_lengthOfRing_19 rfl ?_
        refine mg_cRI (pc := 20) (fun r hr => mg_SN (rest := []) hC wdX3_twice mw_64 (List.mem_of_getElem? (i := 2) rfl) dX2_lengthOfRing_20 rfl rfl ⟨Nat.le_of_ble_eq_true rfl, Nat.le_of_ble_eq_true rfl⟩ (Nat.le_of_ble_eq_true rfl) (kX3_twice hr)) (fun v1 _ => ?_)
        refine mg_istore_n (pc := 23) hC [(2, .int v1), (0, .int x0), (1, .int x1), (3, .int x3)] dX2_lengthOfRing_23 (by decide) rfl ?_
        refine mg_iinc (pc := 24) hC 3 (x3 + (1 : Int32)) [(3, .int (x3 + (1 : Int32))), (2, .int v1), (0, .int x0), (1, .int x1)] dX2_lengthOfRing_24 rfl rfl (by decide) rfl ?_
        refine mg_goto (pc := 27) hC 8 dX2_lengthOfRing_27 (by decide) ?_
        exact mg_sub (pc := 8) [2, 3, 1, 0] (L' := [(0, .int x0), (1, .int x1), (2, .int v1), (3, .int (x3 + (1 : Int32)))]) rfl (ih _ _ _ _ _ _)
def fX2_lengthOfRing (x0 : Int32) (x1 : Int32) : Option (Int32) := (fX3_twice x0 x1).bind fun v1 => fX2_lengthOfRing_b8 mg_N x0 x1 v1 (1 : Int32)
set_option maxHeartbeats 4000000 in
set_option maxRecDepth 100000 in
theorem kX2_lengthOfRing {E : mg_P} {l : Launch} {x0 : Int32} {x1 : Int32} {w : mg_H} {sz : Nat} {o : Int32} (hf : fX2_lengthOfRing x0 x1 = some o) : mg_C E l yX2_lengthOfRing cX2_lengthOfRing 4 (some .int) 1 22 [.int x0, .int x1] w sz ((mg_oR mg_vI w) o) := by
  refine mg_meth (out := (mg_oR mg_vI w)) (by decide) (Nat.le_of_ble_eq_true rfl) hf ?_
  intro p e C S s m below meth c hC hin
  have hC : mg_Cx E p s m _ meth c cX2_lengthOfRing 4 (some .int) RX2 := hC
  unfold fX2_lengthOfRing
  refine mg_sub (pc := 0) [0, 1] (L' := [(0, .int x0), (1, .int x1)]) rfl ?_
  refine mg_iload_n (pc := 0) hC 0 dX2_lengthOfRing_0 rfl ?_
  refine mg_iload_n (pc := 1) hC 1 dX2_lengthOfRing_1 rfl ?_
  refine mg_cRI (pc := 2) (fun r hr => mg_SN (rest := []) hC wdX3_twice mw_64 (List.mem_of_getElem? (i := 2) rfl) dX2_lengthOfRing_2 rfl rfl ⟨Nat.le_of_ble_eq_true rfl, Nat.le_of_ble_eq_true rfl⟩ (Nat.le_of_ble_eq_true rfl) (kX3_twice hr)) (fun v1 _ => ?_)
  refine mg_istore_n (pc := 5) hC [(2, .int v1), (0, .int x0), (1, .int x1)] dX2_lengthOfRing_5 (by decide) rfl ?_
  refine mg_iconst (pc := 6) hC (1 : Int32) dX2_lengthOfRing_6 (by decide) ?_
  refine mg_istore_n (pc := 7) hC [(3, .int (1 : Int32)), (2, .int v1), (0, .int x0), (1, .int x1)] dX2_lengthOfRing_7 (by decide) rfl ?_
  exact mg_sub (pc := 8) [2, 3, 1, 0] (L' := [(0, .int x0), (1, .int x1), (2, .int v1), (3, .int (1 : Int32))]) rfl (gX2_lengthOfRing_b8 hC _ _  _ _ _ _ _ _ _)
theorem wdX2_lengthOfRing : mg_Wd yX2_lengthOfRing cX2_lengthOfRing 4 (some .int) 2 := ⟨mw_68, mw_3, by decide, by decide, by decide +kernel⟩
def fX0_markFree_b35 (r2 : Nat → Int32 → Int32 → mg_H → Option (Unit × mg_H)) (x0 : Nat) (x1 : Int32) (x2 : Int32) (s0 : Int32) (s1 : Int32) (s2 : Nat) (w : mg_H) : Option (Unit × mg_H) := (mg_stZ w s2 s1 s0).bind fun w1 => r2 x0 x1 (x2 + (1 : Int32)) w1
set_option maxHeartbeats 4000000 in
set_option maxRecDepth 100000 in
theorem gX0_markFree_b35 (hC : mg_Cx E p s m args meth c cX0_markFree 3 none RX0) (sz : Nat) (r2 : Nat → Int32 → Int32 → mg_H → Option (Unit × mg_H)) (hr2 : ∀ (z0 : Nat) (z1 : Int32) (z2 : Int32) (w : mg_H) (cells slots : Nat), mg_G E p l e ({ frames := 2, cells := C, slots := S, locals := 45 } : Room) s m args below meth c 3 (mg_oS mg_vV) (r2 z0 z1 z2 w) w sz cells slots 2 [(0, .ref z0), (1, .int z1), (2, .int z2)] []) (x0 : Nat) (x1 : Int32) (x2 : Int32) (s0 : Int32) (s1 : Int32) (s2 : Nat) (w : mg_H) (cells slots : Nat) : mg_G E p l e ({ frames := 2, cells := C, slots := S, locals := 45 } : Room) s m args below meth c 3 (mg_oS mg_vV) (fX0_markFree_b35 r2 x0 x1 x2 s0 s1 s2 w) w sz cells slots 35 [(0, .ref x0), (1, .int x1), (2, .int x2)] [.int s0, .int s1, .ref s2] := by
  unfold fX0_markFree_b35
  refine mg_zast (pc := 35) hC dX0_markFree_35 (fun w1 _ => ?_)
  refine mg_iinc (pc := 36) hC 2 (x2 + (1 : Int32)) [(2, .int (x2 + (1 : Int32))), (0, .ref x0), (1, .int x1)] dX0_markFree_36 rfl rfl (by decide) rfl ?_
  refine mg_goto (pc := 39) hC 2 dX0_markFree_39 (by decide) ?_
  exact mg_sub (pc := 2) [1, 2, 0] (L' := [(0, .ref x0), (1, .int x1), (2, .int (x2 + (1 : Int32)))]) rfl (hr2 _ _ _ _ _ _)
def fX0_markFree_b2 : Nat → Nat → Int32 → Int32 → mg_H → Option (Unit × mg_H)
  | 0, _, _, _, _ => none
  | n + 1, x0, x1, x2, w => (fX3_ones x1).bind fun v1 => if v1 ≤ x2 then (some ((), w)) else ((mg_len w x0).bind fun v2 => if v2 ≤ x2 then (some ((), w)) else ((fX3_ones x1).bind fun v3 => (fX2_lengthOfRing x2 v3).bind fun v4 => if v4 = x1 then (fX0_markFree_b35 (fX0_markFree_b2 n) x0 x1 x2 (1 : Int32) x2 x0 w) else (fX0_markFree_b35 (fX0_markFree_b2 n) x0 x1 x2 (0 : Int32) x2 x0 w)))
set_option maxHeartbeats 4000000 in
set_option maxRecDepth 100000 in
theorem gX0_markFree_b2 (hC : mg_Cx E p s m args meth c cX0_markFree 3 none RX0) (sz : Nat) : ∀ (n : Nat) (x0 : Nat) (x1 : Int32) (x2 : Int32) (w : mg_H) (cells slots : Nat), mg_G E p l e ({ frames := 2, cells := C, slots := S, locals := 45 } : Room) s m args below meth c 3 (mg_oS mg_vV) (fX0_markFree_b2 n x0 x1 x2 w) w sz cells slots 2 [(0, .ref x0), (1, .int x1), (2, .int x2)] [] := by
  intro n
  induction n with
  | zero => intros; exact fun o hf => by rw [fX0_markFree_b2] at hf; cases hf
  | succ n ih =>
    intro x0 x1 x2 w cells slots
    rw [fX0_markFree_b2]
    refine mg_iload_n (pc := 2) hC 2 dX0_markFree_2 rfl ?_
    refine mg_iload_n (pc := 3) hC 1 dX0_markFree_3 rfl ?_
    refine mg_cRI (pc := 4) (fun r hr => mg_SN (rest := [.int x2]) hC wdX3_ones mw_121 (List.mem_of_getElem? (i := 4) rfl) dX0_markFree_4 rfl rfl ⟨Nat.le_of_ble_eq_true rfl, Nat.le_of_ble_eq_true rfl⟩ (Nat.le_of_ble_eq_true rfl) (kX3_ones hr)) (fun v1 _ => ?_)
    refine mg_icmp_ge (pc := 7) hC 42 dX0_markFree_7 (by decide) (fun _ => ?_) (fun _ => ?_)
    · exact mg_vret (pc := 42) hC rfl dX0_markFree_42
    · refine mg_iload_n (pc := 10) hC 2 dX0_markFree_10 rfl ?_
      refine mg_aload_n (pc := 11) hC 0 dX0_markFree_11 rfl ?_
      refine mg_alen (pc := 12) hC dX0_markFree_12 (fun v2 _ => ?_)
      refine mg_icmp_ge (pc := 13) hC 42 dX0_markFree_13 (by decide) (fun _ => ?_) (fun _ => ?_)
      · exact mg_vret (pc := 42) hC rfl dX0_markFree_42
      · refine mg_aload_n (pc := 16) hC 0 dX0_markFree_16 rfl ?_
        refine mg_iload_n (pc := 17) hC 2 dX0_markFree_17 rfl ?_
        refine mg_iload_n (pc := 18) hC 2 dX0_markFree_18 rfl ?_
        refine mg_iload_n (pc := 19) hC 1 dX0_markFree_19 rfl ?_
        refine mg_cRI (pc := 20) (fun r hr => mg_SN (rest := [.int x2, .int x2, .ref x0]) hC wdX3_ones mw_121 (List.mem_of_getElem? (i := 4) rfl) dX0_markFree_20 rfl rfl ⟨Nat.le_of_ble_eq_true rfl, Nat.le_of_ble_eq_true rfl⟩ (Nat.le_of_ble_eq_true rfl) (kX3_ones hr)) (fun v3 _ => ?_)
        refine mg_cRI (pc := 23) (fun r hr => mg_SN (rest := [.int x2, .ref x0]) hC wdX2_lengthOfRing mw_67 (List.mem_of_getElem? (i := 5) rfl) dX0_markFree_23 rfl rfl ⟨Nat.le_of_ble_eq_true rfl, Nat.le_of_ble_eq_true rfl⟩ (Nat.le_of_ble_eq_true rfl) (kX2_lengthOfRing hr)) (fun v4 _ => ?_)
        refine mg_iload_n (pc := 26) hC 1 dX0_markFree_26 rfl ?_
        refine mg_icmp_ne (pc := 27) hC 34 dX0_markFree_27 (by decide) (fun _ => ?_) (fun _ => ?_)
        · refine mg_iconst (pc := 30) hC (1 : Int32) dX0_markFree_30 (by decide) ?_
          refine mg_goto (pc := 31) hC 35 dX0_markFree_31 (by decide) ?_
          exact mg_sub (pc := 35) [0, 1, 2] (L' := [(0, .ref x0), (1, .int x1), (2, .int x2)]) rfl (gX0_markFree_b35 hC _ _ ih _ _ _ _ _ _ _ _ _)
        · refine mg_iconst (pc := 34) hC (0 : Int32) dX0_markFree_34 (by decide) ?_
          exact mg_sub (pc := 35) [0, 1, 2] (L' := [(0, .ref x0), (1, .int x1), (2, .int x2)]) rfl (gX0_markFree_b35 hC _ _ ih _ _ _ _ _ _ _ _ _)
def fX0_markFree (x0 : Nat) (x1 : Int32) (w : mg_H) : Option (Unit × mg_H) := fX0_markFree_b2 mg_N x0 x1 (0 : Int32) w
set_option maxHeartbeats 4000000 in
set_option maxRecDepth 100000 in
theorem kX0_markFree {E : mg_P} {l : Launch} {x0 : Nat} {x1 : Int32} {w : mg_H} {sz : Nat} {o : Unit × mg_H} (hf : fX0_markFree x0 x1 w = some o) : mg_C E l yX0_markFree cX0_markFree 3 none 2 45 [.ref x0, .int x1] w sz ((mg_oS mg_vV) o) := by
  refine mg_meth (out := (mg_oS mg_vV)) (by decide) (Nat.le_of_ble_eq_true rfl) hf ?_
  intro p e C S s m below meth c hC hin
  have hC : mg_Cx E p s m _ meth c cX0_markFree 3 none RX0 := hC
  unfold fX0_markFree
  refine mg_sub (pc := 0) [0, 1] (L' := [(0, .ref x0), (1, .int x1)]) rfl ?_
  refine mg_iconst (pc := 0) hC (0 : Int32) dX0_markFree_0 (by decide) ?_
  refine mg_istore_n (pc := 1) hC [(2, .int (0 : Int32)), (0, .ref x0), (1, .int x1)] dX0_markFree_1 (by decide) rfl ?_
  exact mg_sub (pc := 2) [1, 2, 0] (L' := [(0, .ref x0), (1, .int x1), (2, .int (0 : Int32))]) rfl (gX0_markFree_b2 hC _  _ _ _ _ _ _ _)
theorem wdX0_markFree : mg_Wd yX0_markFree cX0_markFree 3 none 2 := ⟨mw_208, mw_5, by decide, by decide, by decide +kernel⟩
def fX3_over (x0 : Int64) (x2 : Int64) : Option (Int64) := if (lg_cmp x2 (0 : Int64)) ≤ 0 then (some (0 : Int64)) else (if x2 = 0 then none else (some (x0 / x2)))
set_option maxHeartbeats 4000000 in
set_option maxRecDepth 100000 in
theorem kX3_over {E : mg_P} {l : Launch} {x0 : Int64} {x2 : Int64} {w : mg_H} {sz : Nat} {o : Int64} (hf : fX3_over x0 x2 = some o) : mg_C E l yX3_over cX3_over 4 (some .long) 0 0 [.long x0, .long x2] w sz ((mg_oR mg_vL w) o) := by
  refine mg_meth (out := (mg_oR mg_vL w)) (by decide) (Nat.le_of_ble_eq_true rfl) hf ?_
  intro p e C S s m below meth c hC hin
  have hC : mg_Cx E p s m _ meth c cX3_over 4 (some .long) RX3 := hC
  unfold fX3_over
  refine mg_sub (pc := 0) [0, 1] (L' := [(0, .long x0), (2, .long x2)]) rfl ?_
  refine mg_lload_n (pc := 0) hC 1 dX3_over_0 rfl ?_
  refine mg_lconst (pc := 1) hC (0 : Int64) dX3_over_1 (by decide) ?_
  refine mg_lcmp (pc := 2) hC dX3_over_2 ?_
  refine mg_if_le (pc := 3) hC 12 dX3_over_3 (by decide) (fun _ => ?_) (fun _ => ?_)
  · refine mg_lconst (pc := 12) hC (0 : Int64) dX3_over_12 (by decide) ?_
    exact mg_lret (pc := 13) hC rfl dX3_over_13
  · refine mg_lload_n (pc := 6) hC 0 dX3_over_6 rfl ?_
    refine mg_lload_n (pc := 7) hC 1 dX3_over_7 rfl ?_
    refine mg_ldiv (pc := 8) hC dX3_over_8 ?_
    refine mg_goto (pc := 9) hC 13 dX3_over_9 (by decide) ?_
    exact mg_lret (pc := 13) hC rfl dX3_over_13
theorem wdX3_over : mg_Wd yX3_over cX3_over 4 (some .long) 2 := ⟨mw_55, mw_1, by decide, by decide, by decide +kernel⟩
def fX3_order (x0 : Int64) (x2 : Int64) : Option (Int32) := if 0 ≤ (lg_cmp x0 x2) then (if (lg_cmp x0 x2) ≤ 0 then (some (0 : Int32)) else (some (1 : Int32))) else (some (-1 : Int32))
set_option maxHeartbeats 4000000 in
set_option maxRecDepth 100000 in
theorem kX3_order {E : mg_P} {l : Launch} {x0 : Int64} {x2 : Int64} {w : mg_H} {sz : Nat} {o : Int32} (hf : fX3_order x0 x2 = some o) : mg_C E l yX3_order cX3_order 4 (some .int) 0 0 [.long x0, .long x2] w sz ((mg_oR mg_vI w) o) := by
  refine mg_meth (out := (mg_oR mg_vI w)) (by decide) (Nat.le_of_ble_eq_true rfl) hf ?_
  intro p e C S s m below meth c hC hin
  have hC : mg_Cx E p s m _ meth c cX3_order 4 (some .int) RX3 := hC
  unfold fX3_order
  refine mg_sub (pc := 0) [0, 1] (L' := [(0, .long x0), (2, .long x2)]) rfl ?_
  refine mg_lload_n (pc := 0) hC 0 dX3_order_0 rfl ?_
  refine mg_lload_n (pc := 1) hC 1 dX3_order_1 rfl ?_
  refine mg_lcmp (pc := 2) hC dX3_order_2 ?_
  refine mg_if_ge (pc := 3) hC 10 dX3_order_3 (by decide) (fun _ => ?_) (fun _ => ?_)
  · refine mg_lload_n (pc := 10) hC 0 dX3_order_10 rfl ?_
    refine mg_lload_n (pc := 11) hC 1 dX3_order_11 rfl ?_
    refine mg_lcmp (pc := 12) hC dX3_order_12 ?_
    refine mg_if_le (pc := 13) hC 20 dX3_order_13 (by decide) (fun _ => ?_) (fun _ => ?_)
    · refine mg_iconst (pc := 20) hC (0 : Int32) dX3_order_20 (by decide) ?_
      exact mg_iret (pc := 21) hC rfl dX3_order_21
    · refine mg_iconst (pc := 16) hC (1 : Int32) dX3_order_16 (by decide) ?_
      refine mg_goto (pc := 17) hC 21 dX3_order_17 (by decide) ?_
      exact mg_iret (pc := 21) hC rfl dX3_order_21
  · refine mg_iconst (pc := 6) hC (-1 : Int32) dX3_order_6 (by decide) ?_
    refine mg_goto (pc := 7) hC 21 dX3_order_7 (by decide) ?_
    exact mg_iret (pc := 21) hC rfl dX3_order_21
theorem wdX3_order : mg_Wd yX3_order cX3_order 4 (some .int) 2 := ⟨mw_138, mw_1, by decide, by decide, by decide +kernel⟩
def fX0_crossesNone_b2 (w : mg_H) : Nat → Nat → Int32 → Int32 → Int32 → Option (Int32)
  | 0, _, _, _, _ => none
  | n + 1, x0, x1, x2, x3 => (mg_gI w 0 x0 3).bind fun v1 => if v1 ≤ x3 then (some (1 : Int32)) else (mg_gN w 0 x0 0 fun v2 => (mg_ldI w 0 v2 x3).bind fun v3 => (fX3_order (x1.toInt64) (v3.toInt64)).bind fun v4 => mg_gN w 0 x0 1 fun v5 => (mg_ldI w 0 v5 x3).bind fun v6 => (fX3_order (x1.toInt64) (v6.toInt64)).bind fun v7 => mg_gN w 0 x0 0 fun v8 => (mg_ldI w 0 v8 x3).bind fun v9 => (fX3_order (x2.toInt64) (v9.toInt64)).bind fun v10 => mg_gN w 0 x0 1 fun v11 => (mg_ldI w 0 v11 x3).bind fun v12 => (fX3_order (x2.toInt64) (v12.toInt64)).bind fun v13 => if 0 ≤ ((v4 * v7) * (v10 * v13)) then (fX0_crossesNone_b2 w n x0 x1 x2 (x3 + (1 : Int32))) else (some (0 : Int32)))
set_option maxHeartbeats 4000000 in
set_option maxRecDepth 100000 in
theorem gX0_crossesNone_b2 (hC : mg_Cx E p s m args meth c cX0_crossesNone 6 (some .boolean) RX0) (w : mg_H) (sz : Nat) : ∀ (n : Nat) (x0 : Nat) (x1 : Int32) (x2 : Int32) (x3 : Int32) (cells slots : Nat), mg_G E p l e ({ frames := 1, cells := C, slots := S, locals := 23 } : Room) s m args below meth c 6 (mg_oR mg_vI w) (fX0_crossesNone_b2 w n x0 x1 x2 x3) w sz cells slots 2 [(0, .ref x0), (1, .int x1), (2, .int x2), (3, .int x3)] [] := by
  intro n
  induction n with
  | zero => intros; exact fun o hf => by rw [fX0_crossesNone_b2] at hf; cases hf
  | succ n ih =>
    intro x0 x1 x2 x3 cells slots
    rw [fX0_crossesNone_b2]
    refine mg_iload_n (pc := 2) hC 3 dX0_crossesNone_2 rfl ?_
    refine mg_aload_n (pc := 3) hC 0 dX0_crossesNone_3 rfl ?_
    refine mg_getI (pc := 4) (ci := 0) (k := 3) hC mi_0 rfl (by decide) mw_227 dX0_crossesNone_4 (fun v1 _ => ?_)
    refine mg_icmp_ge (pc := 7) hC 80 dX0_crossesNone_7 (by decide) (fun _ => ?_) (fun _ => ?_)
    · refine mg_iconst (pc := 80) hC (1 : Int32) dX0_crossesNone_80 (by decide) ?_
      exact mg_zretC (pc := 81) hC (by decide) rfl dX0_crossesNone_81
    · refine mg_iload_n (pc := 10) hC 1 dX0_crossesNone_10 rfl ?_
      refine mg_i2l (pc := 11) hC dX0_crossesNone_11 ?_
      refine mg_aload_n (pc := 12) hC 0 dX0_crossesNone_12 rfl ?_
      refine mg_getNN (pc := 13) (ci := 0) (k := 0) hC mi_0 rfl (by decide) mw_224 dX0_crossesNone_13 (fun v2 _ => ?_)
      refine mg_iload_n (pc := 16) hC 3 dX0_crossesNone_16 rfl ?_
      refine mg_iald (pc := 17) hC dX0_crossesNone_17 (fun v3 _ => ?_)
      refine mg_i2l (pc := 18) hC dX0_crossesNone_18 ?_
      refine mg_cRI (pc := 19) (fun r hr => mg_SN (rest := []) hC wdX3_order mw_137 (List.mem_of_getElem? (i := 7) rfl) dX0_crossesNone_19 rfl rfl ⟨Nat.le_of_ble_eq_true rfl, Nat.le_of_ble_eq_true rfl⟩ (Nat.le_of_ble_eq_true rfl) (kX3_order hr)) (fun v4 _ => ?_)
      refine mg_iload_n (pc := 22) hC 1 dX0_crossesNone_22 rfl ?_
      refine mg_i2l (pc := 23) hC dX0_crossesNone_23 ?_
      refine mg_aload_n (pc := 24) hC 0 dX0_crossesNone_24 rfl ?_
      refine mg_getNN (pc := 25) (ci := 0) (k := 1) hC mi_0 rfl (by decide) mw_225 dX0_crossesNone_25 (fun v5 _ => ?_)
      refine mg_iload_n (pc := 28) hC 3 dX0_crossesNone_28 rfl ?_
      refine mg_iald (pc := 29) hC dX0_crossesNone_29 (fun v6 _ => ?_)
      refine mg_i2l (pc := 30) hC dX0_crossesNone_30 ?_
      refine mg_cRI (pc := 31) (fun r hr => mg_SN (rest := [.int v4]) hC wdX3_order mw_137 (List.mem_of_getElem? (i := 7) rfl) dX0_crossesNone_31 rfl rfl ⟨Nat.le_of_ble_eq_true rfl, Nat.le_of_ble_eq_true rfl⟩ (Nat.le_of_ble_eq_true rfl) (kX3_order hr)) (fun v7 _ => ?_)
      refine mg_imul (pc := 34) hC dX0_crossesNone_34 ?_
      refine mg_istore (pc := 35) hC [(4, .int (v4 * v7)), (0, .ref x0), (1, .int x1), (2, .int x2), (3, .int x3)] dX0_crossesNone_35 (by decide) rfl ?_
      refine mg_iload_n (pc := 37) hC 3 dX0_crossesNone_37 rfl ?_
      refine mg_i2l (pc := 38) hC dX0_crossesNone_38 ?_
      refine mg_aload_n (pc := 39) hC 1 dX0_crossesNone_39 rfl ?_
      refine mg_getNN (pc := 40) (ci := 0) (k := 0) hC mi_0 rfl (by decide) mw_224 dX0_crossesNone_40 (fun v8 _ => ?_)
      refine mg_iload_n (pc := 43) hC 4 dX0_crossesNone_43 rfl ?_
      refine mg_iald (pc := 44) hC dX0_crossesNone_44 (fun v9 _ => ?_)
      refine mg_i2l (pc := 45) hC dX0_crossesNone_45 ?_
      refine mg_cRI (pc := 46) (fun r hr => mg_SN (rest := []) hC wdX3_order mw_137 (List.mem_of_getElem? (i := 7) rfl) dX0_crossesNone_46 rfl rfl ⟨Nat.le_of_ble_eq_true rfl, Nat.le_of_ble_eq_true rfl⟩ (Nat.le_of_ble_eq_true rfl) (kX3_order hr)) (fun v10 _ => ?_)
      refine mg_iload_n (pc := 49) hC 3 dX0_crossesNone_49 rfl ?_
      refine mg_i2l (pc := 50) hC dX0_crossesNone_50 ?_
      refine mg_aload_n (pc := 51) hC 1 dX0_crossesNone_51 rfl ?_
      refine mg_getNN (pc := 52) (ci := 0) (k := 1) hC mi_0 rfl (by decide) mw_225 dX0_crossesNone_52 (fun v11 _ => ?_)
      refine mg_iload_n (pc := 55) hC 4 dX0_crossesNone_55 rfl ?_
      refine mg_iald (pc := 56) hC dX0_crossesNone_56 (fun v12 _ => ?_)
      refine mg_i2l (pc := 57) hC dX0_crossesNone_57 ?_
      refine mg_cRI (pc := 58) (fun r hr => mg_SN (rest := [.int v10]) hC wdX3_order mw_137 (List.mem_of_getElem? (i := 7) rfl) dX0_crossesNone_58 rfl rfl ⟨Nat.le_of_ble_eq_true rfl, Nat.le_of_ble_eq_true rfl⟩ (Nat.le_of_ble_eq_true rfl) (kX3_order hr)) (fun v13 _ => ?_)
      refine mg_imul (pc := 61) hC dX0_crossesNone_61 ?_
      refine mg_istore (pc := 62) hC [(5, .int (v10 * v13)), (4, .int (v4 * v7)), (0, .ref x0), (1, .int x1), (2, .int x2), (3, .int x3)] dX0_crossesNone_62 (by decide) rfl ?_
      refine mg_iload (pc := 64) hC 1 dX0_crossesNone_64 rfl ?_
      refine mg_iload (pc := 66) hC 0 dX0_crossesNone_66 rfl ?_
      refine mg_imul (pc := 68) hC dX0_crossesNone_68 ?_
      refine mg_if_ge (pc := 69) hC 74 dX0_crossesNone_69 (by decide) (fun _ => ?_) (fun _ => ?_)
      · refine mg_iinc (pc := 74) hC 5 (x3 + (1 : Int32)) [(3, .int (x3 + (1 : Int32))), (5, .int (v10 * v13)), (4, .int (v4 * v7)), (0, .ref x0), (1, .int x1), (2, .int x2)] dX0_crossesNone_74 rfl rfl (by decide) rfl ?_
        refine mg_goto (pc := 77) hC 2 dX0_crossesNone_77 (by decide) ?_
        exact mg_sub (pc := 2) [3, 4, 5, 0] (L' := [(0, .ref x0), (1, .int x1), (2, .int x2), (3, .int (x3 + (1 : Int32)))]) rfl (ih _ _ _ _ _ _)
      · refine mg_iconst (pc := 72) hC (0 : Int32) dX0_crossesNone_72 (by decide) ?_
        exact mg_zretC (pc := 73) hC (by decide) rfl dX0_crossesNone_73
def fX0_crossesNone (x0 : Nat) (x1 : Int32) (x2 : Int32) (w : mg_H) : Option (Int32) := fX0_crossesNone_b2 w mg_N x0 x1 x2 (0 : Int32)
set_option maxHeartbeats 4000000 in
set_option maxRecDepth 100000 in
theorem kX0_crossesNone {E : mg_P} {l : Launch} {x0 : Nat} {x1 : Int32} {x2 : Int32} {w : mg_H} {sz : Nat} {o : Int32} (hf : fX0_crossesNone x0 x1 x2 w = some o) : mg_C E l yX0_crossesNone cX0_crossesNone 6 (some .boolean) 1 23 [.ref x0, .int x1, .int x2] w sz ((mg_oR mg_vI w) o) := by
  refine mg_meth (out := (mg_oR mg_vI w)) (by decide) (Nat.le_of_ble_eq_true rfl) hf ?_
  intro p e C S s m below meth c hC hin
  have hC : mg_Cx E p s m _ meth c cX0_crossesNone 6 (some .boolean) RX0 := hC
  unfold fX0_crossesNone
  refine mg_sub (pc := 0) [0, 1, 2] (L' := [(0, .ref x0), (1, .int x1), (2, .int x2)]) rfl ?_
  refine mg_iconst (pc := 0) hC (0 : Int32) dX0_crossesNone_0 (by decide) ?_
  refine mg_istore_n (pc := 1) hC [(3, .int (0 : Int32)), (0, .ref x0), (1, .int x1), (2, .int x2)] dX0_crossesNone_1 (by decide) rfl ?_
  exact mg_sub (pc := 2) [1, 2, 3, 0] (L' := [(0, .ref x0), (1, .int x1), (2, .int x2), (3, .int (0 : Int32))]) rfl (gX0_crossesNone_b2 hC _ _  _ _ _ _ _ _ _)
theorem wdX0_crossesNone : mg_WdV 0 yX0_crossesNone cX0_crossesNone 6 (some .boolean) 2 := ⟨⟨mw_222, mw_5, by decide, by decide, by decide +kernel⟩, _, rfl, mw_221, mw_p9⟩
def fX0_joinFree_b104 (r27 : Nat → Nat → Int32 → Int32 → Int32 → mg_H → Option (Unit × mg_H)) (x0 : Nat) (x1 : Nat) (x3 : Int32) (x4 : Int32) (x5 : Int32) (w : mg_H) : Option (Unit × mg_H) := r27 x0 x1 x3 x4 (x5 + (1 : Int32)) w
set_option maxHeartbeats 4000000 in
set_option maxRecDepth 100000 in
theorem gX0_joinFree_b104 (hC : mg_Cx E p s m args meth c cX0_joinFree 7 none RX0) (sz : Nat) (r27 : Nat → Nat → Int32 → Int32 → Int32 → mg_H → Option (Unit × mg_H)) (hr27 : ∀ (z0 : Nat) (z1 : Nat) (z3 : Int32) (z4 : Int32) (z5 : Int32) (w : mg_H) (cells slots : Nat), mg_G E p l e ({ frames := 2, cells := C, slots := S, locals := 48 } : Room) s m args below meth c 7 (mg_oS mg_vV) (r27 z0 z1 z3 z4 z5 w) w sz cells slots 27 [(0, .ref z0), (1, .ref z1), (3, .int z3), (4, .int z4), (5, .int z5)] []) (x0 : Nat) (x1 : Nat) (x3 : Int32) (x4 : Int32) (x5 : Int32) (w : mg_H) (cells slots : Nat) : mg_G E p l e ({ frames := 2, cells := C, slots := S, locals := 48 } : Room) s m args below meth c 7 (mg_oS mg_vV) (fX0_joinFree_b104 r27 x0 x1 x3 x4 x5 w) w sz cells slots 104 [(0, .ref x0), (1, .ref x1), (3, .int x3), (4, .int x4), (5, .int x5)] [] := by
  unfold fX0_joinFree_b104
  refine mg_iinc (pc := 104) hC 4 (x5 + (1 : Int32)) [(5, .int (x5 + (1 : Int32))), (0, .ref x0), (1, .ref x1), (3, .int x3), (4, .int x4)] dX0_joinFree_104 rfl rfl (by decide) rfl ?_
  refine mg_goto (pc := 107) hC 27 dX0_joinFree_107 (by decide) ?_
  exact mg_sub (pc := 27) [1, 2, 3, 4, 0] (L' := [(0, .ref x0), (1, .ref x1), (3, .int x3), (4, .int x4), (5, .int (x5 + (1 : Int32)))]) rfl (hr27 _ _ _ _ _ _ _ _)
def fX0_joinFree_b98 (r27 : Nat → Nat → Int32 → Int32 → Int32 → mg_H → Option (Unit × mg_H)) (r40 : Nat → Nat → Int32 → Int32 → Int32 → Int32 → mg_H → Option (Unit × mg_H)) (x0 : Nat) (x1 : Nat) (x3 : Int32) (x4 : Int32) (x5 : Int32) (x6 : Int32) (w : mg_H) : Option (Unit × mg_H) := r40 x0 x1 x3 x4 x5 (x6 + (1 : Int32)) w
set_option maxHeartbeats 4000000 in
set_option maxRecDepth 100000 in
theorem gX0_joinFree_b98 (hC : mg_Cx E p s m args meth c cX0_joinFree 7 none RX0) (sz : Nat) (r27 : Nat → Nat → Int32 → Int32 → Int32 → mg_H → Option (Unit × mg_H)) (hr27 : ∀ (z0 : Nat) (z1 : Nat) (z3 : Int32) (z4 : Int32) (z5 : Int32) (w : mg_H) (cells slots : Nat), mg_G E p l e ({ frames := 2, cells := C, slots := S, locals := 48 } : Room) s m args below meth c 7 (mg_oS mg_vV) (r27 z0 z1 z3 z4 z5 w) w sz cells slots 27 [(0, .ref z0), (1, .ref z1), (3, .int z3), (4, .int z4), (5, .int z5)] []) (r40 : Nat → Nat → Int32 → Int32 → Int32 → Int32 → mg_H → Option (Unit × mg_H)) (hr40 : ∀ (z0 : Nat) (z1 : Nat) (z3 : Int32) (z4 : Int32) (z5 : Int32) (z6 : Int32) (w : mg_H) (cells slots : Nat), mg_G E p l e ({ frames := 2, cells := C, slots := S, locals := 48 } : Room) s m args below meth c 7 (mg_oS mg_vV) (r40 z0 z1 z3 z4 z5 z6 w) w sz cells slots 40 [(0, .ref z0), (1, .ref z1), (3, .int z3), (4, .int z4), (5, .int z5), (6, .int z6)] []) (x0 : Nat) (x1 : Nat) (x3 : Int32) (x4 : Int32) (x5 : Int32) (x6 : Int32) (w : mg_H) (cells slots : Nat) : mg_G E p l e ({ frames := 2, cells := C, slots := S, locals := 48 } : Room) s m args below meth c 7 (mg_oS mg_vV) (fX0_joinFree_b98 r27 r40 x0 x1 x3 x4 x5 x6 w) w sz cells slots 98 [(0, .ref x0), (1, .ref x1), (3, .int x3), (4, .int x4), (5, .int x5), (6, .int x6)] [] := by
  unfold fX0_joinFree_b98
  refine mg_iinc (pc := 98) hC 5 (x6 + (1 : Int32)) [(6, .int (x6 + (1 : Int32))), (0, .ref x0), (1, .ref x1), (3, .int x3), (4, .int x4), (5, .int x5)] dX0_joinFree_98 rfl rfl (by decide) rfl ?_
  refine mg_goto (pc := 101) hC 40 dX0_joinFree_101 (by decide) ?_
  exact mg_sub (pc := 40) [1, 2, 3, 4, 5, 0] (L' := [(0, .ref x0), (1, .ref x1), (3, .int x3), (4, .int x4), (5, .int x5), (6, .int (x6 + (1 : Int32)))]) rfl (hr40 _ _ _ _ _ _ _ _ _)
def fX0_joinFree_b40 (r27 : Nat → Nat → Int32 → Int32 → Int32 → mg_H → Option (Unit × mg_H)) : Nat → Nat → Nat → Int32 → Int32 → Int32 → Int32 → mg_H → Option (Unit × mg_H)
  | 0, _, _, _, _, _, _, _ => none
  | n + 1, x0, x1, x3, x4, x5, x6, w => if x4 ≤ x6 then (fX0_joinFree_b104 r27 x0 x1 x3 x4 x5 w) else ((mg_ldI w 1 x1 x5).bind fun v1 => if v1 = 0 then (fX0_joinFree_b104 r27 x0 x1 x3 x4 x5 w) else ((mg_ldI w 1 x1 x6).bind fun v2 => if v2 = 0 then (fX0_joinFree_b98 r27 (fX0_joinFree_b40 r27 n) x0 x1 x3 x4 x5 x6 w) else (mg_rc w 0 x0 ((fX0_crossesNone x0 (x5 * x3) (x6 * x3) w).bind fun v3 => if v3 = 0 then (fX0_joinFree_b98 r27 (fX0_joinFree_b40 r27 n) x0 x1 x3 x4 x5 x6 w) else (mg_rc w 0 x0 (mg_bS (fX0_join x0 (x5 * x3) (x6 * x3) w) fun _ w5 => (mg_stZ w5 x1 x5 (0 : Int32)).bind fun w6 => (mg_stZ w6 x1 x6 (0 : Int32)).bind fun w7 => fX0_joinFree_b98 r27 (fX0_joinFree_b40 r27 n) x0 x1 x3 x4 x5 x6 w7))))))
set_option maxHeartbeats 4000000 in
set_option maxRecDepth 100000 in
theorem gX0_joinFree_b40 (hC : mg_Cx E p s m args meth c cX0_joinFree 7 none RX0) (sz : Nat) (r27 : Nat → Nat → Int32 → Int32 → Int32 → mg_H → Option (Unit × mg_H)) (hr27 : ∀ (z0 : Nat) (z1 : Nat) (z3 : Int32) (z4 : Int32) (z5 : Int32) (w : mg_H) (cells slots : Nat), mg_G E p l e ({ frames := 2, cells := C, slots := S, locals := 48 } : Room) s m args below meth c 7 (mg_oS mg_vV) (r27 z0 z1 z3 z4 z5 w) w sz cells slots 27 [(0, .ref z0), (1, .ref z1), (3, .int z3), (4, .int z4), (5, .int z5)] []) : ∀ (n : Nat) (x0 : Nat) (x1 : Nat) (x3 : Int32) (x4 : Int32) (x5 : Int32) (x6 : Int32) (w : mg_H) (cells slots : Nat), mg_G E p l e ({ frames := 2, cells := C, slots := S, locals := 48 } : Room) s m args below meth c 7 (mg_oS mg_vV) (fX0_joinFree_b40 r27 n x0 x1 x3 x4 x5 x6 w) w sz cells slots 40 [(0, .ref x0), (1, .ref x1), (3, .int x3), (4, .int x4), (5, .int x5), (6, .int x6)] [] := by
  intro n
  induction n with
  | zero => intros; exact fun o hf => by rw [fX0_joinFree_b40] at hf; cases hf
  | succ n ih =>
    intro x0 x1 x3 x4 x5 x6 w cells slots
    rw [fX0_joinFree_b40]
    refine mg_iload (pc := 40) hC 5 dX0_joinFree_40 rfl ?_
    refine mg_iload (pc := 42) hC 3 dX0_joinFree_42 rfl ?_
    refine mg_icmp_ge (pc := 44) hC 104 dX0_joinFree_44 (by decide) (fun _ => ?_) (fun _ => ?_)
    · exact mg_sub (pc := 104) [0, 1, 2, 3, 4] (L' := [(0, .ref x0), (1, .ref x1), (3, .int x3), (4, .int x4), (5, .int x5)]) rfl (gX0_joinFree_b104 hC _ _ hr27 _ _ _ _ _ _ _ _)
    · refine mg_aload_n (pc := 47) hC 1 dX0_joinFree_47 rfl ?_
      refine mg_iload (pc := 48) hC 4 dX0_joinFree_48 rfl ?_
      refine mg_zald (pc := 50) hC dX0_joinFree_50 (fun v1 _ => ?_)
      refine mg_if_eq (pc := 51) hC 104 dX0_joinFree_51 (by decide) (fun _ => ?_) (fun _ => ?_)
      · exact mg_sub (pc := 104) [0, 1, 2, 3, 4] (L' := [(0, .ref x0), (1, .ref x1), (3, .int x3), (4, .int x4), (5, .int x5)]) rfl (gX0_joinFree_b104 hC _ _ hr27 _ _ _ _ _ _ _ _)
      · refine mg_aload_n (pc := 54) hC 1 dX0_joinFree_54 rfl ?_
        refine mg_iload (pc := 55) hC 5 dX0_joinFree_55 rfl ?_
        refine mg_zald (pc := 57) hC dX0_joinFree_57 (fun v2 _ => ?_)
        refine mg_if_eq (pc := 58) hC 98 dX0_joinFree_58 (by decide) (fun _ => ?_) (fun _ => ?_)
        · exact mg_sub (pc := 98) [0, 1, 2, 3, 4, 5] (L' := [(0, .ref x0), (1, .ref x1), (3, .int x3), (4, .int x4), (5, .int x5), (6, .int x6)]) rfl (gX0_joinFree_b98 hC _ _ hr27 _ ih _ _ _ _ _ _ _ _ _)
        · refine mg_aload_n (pc := 61) hC 0 dX0_joinFree_61 rfl ?_
          refine mg_iload (pc := 62) hC 4 dX0_joinFree_62 rfl ?_
          refine mg_iload_n (pc := 64) hC 2 dX0_joinFree_64 rfl ?_
          refine mg_imul (pc := 65) hC dX0_joinFree_65 ?_
          refine mg_iload (pc := 66) hC 5 dX0_joinFree_66 rfl ?_
          refine mg_iload_n (pc := 68) hC 2 dX0_joinFree_68 rfl ?_
          refine mg_imul (pc := 69) hC dX0_joinFree_69 ?_
          refine mg_recv (ci := 0) (fun hb => ?_)
          refine mg_cRI (pc := 70) (fun r hr => mg_VR (rest := []) (av := [.int (x5 * x3), .int (x6 * x3)]) (ci := 0) hC wdX0_crossesNone mw_219 dX0_joinFree_70 rfl rfl ⟨Nat.le_of_ble_eq_true rfl, Nat.le_of_ble_eq_true rfl⟩ (Nat.le_of_ble_eq_true rfl) hb (kX0_crossesNone hr)) (fun v3 _ => ?_)
          refine mg_if_eq (pc := 73) hC 98 dX0_joinFree_73 (by decide) (fun _ => ?_) (fun _ => ?_)
          · exact mg_sub (pc := 98) [0, 1, 2, 3, 4, 5] (L' := [(0, .ref x0), (1, .ref x1), (3, .int x3), (4, .int x4), (5, .int x5), (6, .int x6)]) rfl (gX0_joinFree_b98 hC _ _ hr27 _ ih _ _ _ _ _ _ _ _ _)
          · refine mg_aload_n (pc := 76) hC 0 dX0_joinFree_76 rfl ?_
            refine mg_iload (pc := 77) hC 4 dX0_joinFree_77 rfl ?_
            refine mg_iload_n (pc := 79) hC 2 dX0_joinFree_79 rfl ?_
            refine mg_imul (pc := 80) hC dX0_joinFree_80 ?_
            refine mg_iload (pc := 81) hC 5 dX0_joinFree_81 rfl ?_
            refine mg_iload_n (pc := 83) hC 2 dX0_joinFree_83 rfl ?_
            refine mg_imul (pc := 84) hC dX0_joinFree_84 ?_
            refine mg_recv (ci := 0) (fun hb => ?_)
            refine mg_cSV (pc := 85) (fun r hr => mg_VR (rest := []) (av := [.int (x5 * x3), .int (x6 * x3)]) (ci := 0) hC wdX0_join mw_201 dX0_joinFree_85 rfl rfl ⟨Nat.le_of_ble_eq_true rfl, Nat.le_of_ble_eq_true rfl⟩ (Nat.le_of_ble_eq_true rfl) hb (kX0_join hr)) (fun _ w5 _ => ?_)
            refine mg_aload_n (pc := 88) hC 1 dX0_joinFree_88 rfl ?_
            refine mg_iload (pc := 89) hC 4 dX0_joinFree_89 rfl ?_
            refine mg_iconst (pc := 91) hC (0 : Int32) dX0_joinFree_91 (by decide) ?_
            refine mg_zast (pc := 92) hC dX0_joinFree_92 (fun w6 _ => ?_)
            refine mg_aload_n (pc := 93) hC 1 dX0_joinFree_93 rfl ?_
            refine mg_iload (pc := 94) hC 5 dX0_joinFree_94 rfl ?_
            refine mg_iconst (pc := 96) hC (0 : Int32) dX0_joinFree_96 (by decide) ?_
            refine mg_zast (pc := 97) hC dX0_joinFree_97 (fun w7 _ => ?_)
            exact mg_sub (pc := 98) [0, 1, 2, 3, 4, 5] (L' := [(0, .ref x0), (1, .ref x1), (3, .int x3), (4, .int x4), (5, .int x5), (6, .int x6)]) rfl (gX0_joinFree_b98 hC _ _ hr27 _ ih _ _ _ _ _ _ _ _ _)
def fX0_joinFree_b27 : Nat → Nat → Nat → Int32 → Int32 → Int32 → mg_H → Option (Unit × mg_H)
  | 0, _, _, _, _, _, _ => none
  | n + 1, x0, x1, x3, x4, x5, w => if x4 ≤ x5 then (some ((), w)) else (fX0_joinFree_b40 (fX0_joinFree_b27 n) mg_N x0 x1 x3 x4 x5 (x5 + (1 : Int32)) w)
set_option maxHeartbeats 4000000 in
set_option maxRecDepth 100000 in
theorem gX0_joinFree_b27 (hC : mg_Cx E p s m args meth c cX0_joinFree 7 none RX0) (sz : Nat) : ∀ (n : Nat) (x0 : Nat) (x1 : Nat) (x3 : Int32) (x4 : Int32) (x5 : Int32) (w : mg_H) (cells slots : Nat), mg_G E p l e ({ frames := 2, cells := C, slots := S, locals := 48 } : Room) s m args below meth c 7 (mg_oS mg_vV) (fX0_joinFree_b27 n x0 x1 x3 x4 x5 w) w sz cells slots 27 [(0, .ref x0), (1, .ref x1), (3, .int x3), (4, .int x4), (5, .int x5)] [] := by
  intro n
  induction n with
  | zero => intros; exact fun o hf => by rw [fX0_joinFree_b27] at hf; cases hf
  | succ n ih =>
    intro x0 x1 x3 x4 x5 w cells slots
    rw [fX0_joinFree_b27]
    refine mg_iload (pc := 27) hC 4 dX0_joinFree_27 rfl ?_
    refine mg_iload (pc := 29) hC 3 dX0_joinFree_29 rfl ?_
    refine mg_icmp_ge (pc := 31) hC 110 dX0_joinFree_31 (by decide) (fun _ => ?_) (fun _ => ?_)
    · exact mg_vret (pc := 110) hC rfl dX0_joinFree_110
    · refine mg_iload (pc := 34) hC 4 dX0_joinFree_34 rfl ?_
      refine mg_iconst (pc := 36) hC (1 : Int32) dX0_joinFree_36 (by decide) ?_
      refine mg_iadd (pc := 37) hC dX0_joinFree_37 ?_
      refine mg_istore (pc := 38) hC [(6, .int (x5 + (1 : Int32))), (0, .ref x0), (1, .ref x1), (3, .int x3), (4, .int x4), (5, .int x5)] dX0_joinFree_38 (by decide) rfl ?_
      exact mg_sub (pc := 40) [1, 2, 3, 4, 5, 0] (L' := [(0, .ref x0), (1, .ref x1), (3, .int x3), (4, .int x4), (5, .int x5), (6, .int (x5 + (1 : Int32)))]) rfl (gX0_joinFree_b40 hC _ _ ih _ _ _ _ _ _ _ _ _ _)
def fX0_joinFree (x0 : Nat) (x1 : Nat) (x2 : Int32) (w : mg_H) : Option (Unit × mg_H) := (fX3_ones x2).bind fun v1 => (fX3_over (21082635 : Int64) (v1.toInt64)).bind fun v2 => (fX3_ones x2).bind fun v3 => (mg_len w x1).bind fun v4 => fX0_joinFree_b27 mg_N x0 x1 (v2.toInt32) (if v4 < v3 then v4 else v3) (0 : Int32) w
set_option maxHeartbeats 4000000 in
set_option maxRecDepth 100000 in
theorem kX0_joinFree {E : mg_P} {l : Launch} {x0 : Nat} {x1 : Nat} {x2 : Int32} {w : mg_H} {sz : Nat} {o : Unit × mg_H} (hf : fX0_joinFree x0 x1 x2 w = some o) : mg_C E l yX0_joinFree cX0_joinFree 7 none 2 48 [.ref x0, .ref x1, .int x2] w sz ((mg_oS mg_vV) o) := by
  refine mg_meth (out := (mg_oS mg_vV)) (by decide) (Nat.le_of_ble_eq_true rfl) hf ?_
  intro p e C S s m below meth c hC hin
  have hC : mg_Cx E p s m _ meth c cX0_joinFree 7 none RX0 := hC
  unfold fX0_joinFree
  refine mg_sub (pc := 0) [0, 1, 2] (L' := [(0, .ref x0), (1, .ref x1), (2, .int x2)]) rfl ?_
  refine mg_ldc2 (pc := 0) hC (21082635 : Int64) dX0_joinFree_0 mw_214 ?_
  refine mg_iload_n (pc := 3) hC 2 dX0_joinFree_3 rfl ?_
  refine mg_cRI (pc := 4) (fun r hr => mg_SN (rest := [.long (21082635 : Int64)]) hC wdX3_ones mw_121 (List.mem_of_getElem? (i := 4) rfl) dX0_joinFree_4 rfl rfl ⟨Nat.le_of_ble_eq_true rfl, Nat.le_of_ble_eq_true rfl⟩ (Nat.le_of_ble_eq_true rfl) (kX3_ones hr)) (fun v1 _ => ?_)
  refine mg_i2l (pc := 7) hC dX0_joinFree_7 ?_
  refine mg_cRL (pc := 8) (fun r hr => mg_SN (rest := []) hC wdX3_over mw_54 (List.mem_of_getElem? (i := 6) rfl) dX0_joinFree_8 rfl rfl ⟨Nat.le_of_ble_eq_true rfl, Nat.le_of_ble_eq_true rfl⟩ (Nat.le_of_ble_eq_true rfl) (kX3_over hr)) (fun v2 _ => ?_)
  refine mg_l2i (pc := 11) hC dX0_joinFree_11 ?_
  refine mg_istore_n (pc := 12) hC [(3, .int (v2.toInt32)), (0, .ref x0), (1, .ref x1), (2, .int x2)] dX0_joinFree_12 (by decide) rfl ?_
  refine mg_iload_n (pc := 13) hC 3 dX0_joinFree_13 rfl ?_
  refine mg_cRI (pc := 14) (fun r hr => mg_SN (rest := []) hC wdX3_ones mw_121 (List.mem_of_getElem? (i := 4) rfl) dX0_joinFree_14 rfl rfl ⟨Nat.le_of_ble_eq_true rfl, Nat.le_of_ble_eq_true rfl⟩ (Nat.le_of_ble_eq_true rfl) (kX3_ones hr)) (fun v3 _ => ?_)
  refine mg_aload_n (pc := 17) hC 2 dX0_joinFree_17 rfl ?_
  refine mg_alen (pc := 18) hC dX0_joinFree_18 (fun v4 _ => ?_)
  refine mg_mmin (pc := 19) hC dX0_joinFree_19 mw_216 mw_217 mw_4 mw_218 (Nat.le_of_ble_eq_true rfl) (Nat.le_of_ble_eq_true rfl) ?_
  refine mg_istore (pc := 22) hC [(4, .int (if v4 < v3 then v4 else v3)), (3, .int (v2.toInt32)), (0, .ref x0), (1, .ref x1), (2, .int x2)] dX0_joinFree_22 (by decide) rfl ?_
  refine mg_iconst (pc := 24) hC (0 : Int32) dX0_joinFree_24 (by decide) ?_
  refine mg_istore (pc := 25) hC [(5, .int (0 : Int32)), (4, .int (if v4 < v3 then v4 else v3)), (3, .int (v2.toInt32)), (0, .ref x0), (1, .ref x1), (2, .int x2)] dX0_joinFree_25 (by decide) rfl ?_
  exact mg_sub (pc := 27) [3, 4, 2, 1, 0] (L' := [(0, .ref x0), (1, .ref x1), (3, .int (v2.toInt32)), (4, .int (if v4 < v3 then v4 else v3)), (5, .int (0 : Int32))]) rfl (gX0_joinFree_b27 hC _  _ _ _ _ _ _ _ _ _)
theorem wdX0_joinFree : mg_WdV 0 yX0_joinFree cX0_joinFree 7 none 2 := ⟨⟨mw_213, mw_5, by decide, by decide, by decide +kernel⟩, _, rfl, mw_212, mw_p8⟩
def fX0_init_b61 : Nat → Nat → Nat → Int32 → mg_H → Nat → Option (Unit × mg_H × Nat × Nat)
  | 0, _, _, _, _, _ => none
  | n + 1, x0, x1, x2, w, sz => if (8 : Int32) < x2 then (some ((), w, 0, 0)) else (mg_bS (fX0_markFree x1 x2 w) fun _ w2 => mg_rc w2 0 x0 (mg_bS (fX0_joinFree x0 x1 x2 w2) fun _ w4 => mg_gN w4 0 x0 2 fun v5 => (mg_gI w4 0 x0 3).bind fun v6 => (mg_stI w4 v5 x2 v6).bind fun w7 => fX0_init_b61 n x0 x1 (x2 + (1 : Int32)) w7 sz))
set_option maxHeartbeats 4000000 in
set_option maxRecDepth 100000 in
theorem gX0_init_b61 (hC : mg_Cx E p s m args meth c cX0_init 3 none RX0) (hin : meth.name = "<init>") : ∀ (n : Nat) (x0 : Nat) (x1 : Nat) (x2 : Int32) (w : mg_H) (sz : Nat) (cells slots : Nat), mg_G E p l e ({ frames := 3, cells := C, slots := S, locals := 74 } : Room) s m args below meth c 3 (mg_oA mg_vV) (fX0_init_b61 n x0 x1 x2 w sz) w sz cells slots 61 [(0, .ref x0), (1, .ref x1), (2, .int x2)] [] := by
  intro n
  induction n with
  | zero => intros; exact fun o hf => by rw [fX0_init_b61] at hf; cases hf
  | succ n ih =>
    intro x0 x1 x2 w sz cells slots
    rw [fX0_init_b61]
    refine mg_iload_n (pc := 61) hC 2 dX0_init_61 rfl ?_
    refine mg_bipush (pc := 62) hC (8 : Int32) dX0_init_62 (by decide) ?_
    refine mg_icmp_gt (pc := 64) hC 94 dX0_init_64 (by decide) (fun _ => ?_) (fun _ => ?_)
    · exact mg_vret (pc := 94) hC rfl dX0_init_94
    · refine mg_aload_n (pc := 67) hC 1 dX0_init_67 rfl ?_
      refine mg_iload_n (pc := 68) hC 2 dX0_init_68 rfl ?_
      refine mg_cSV (pc := 69) (fun r hr => mg_S (rest := []) hC wdX0_markFree mw_207 mw_206 dX0_init_69 rfl rfl ⟨Nat.le_of_ble_eq_true rfl, Nat.le_of_ble_eq_true rfl⟩ (Nat.le_of_ble_eq_true rfl) (kX0_markFree hr)) (fun _ w2 _ => ?_)
      refine mg_aload_n (pc := 72) hC 0 dX0_init_72 rfl ?_
      refine mg_aload_n (pc := 73) hC 1 dX0_init_73 rfl ?_
      refine mg_iload_n (pc := 74) hC 2 dX0_init_74 rfl ?_
      refine mg_recv (ci := 0) (fun hb => ?_)
      refine mg_cSV (pc := 75) (fun r hr => mg_VR (rest := []) (av := [.ref x1, .int x2]) (ci := 0) hC wdX0_joinFree mw_210 dX0_init_75 rfl rfl ⟨Nat.le_of_ble_eq_true rfl, Nat.le_of_ble_eq_true rfl⟩ (Nat.le_of_ble_eq_true rfl) hb (kX0_joinFree hr)) (fun _ w4 _ => ?_)
      refine mg_aload_n (pc := 78) hC 0 dX0_init_78 rfl ?_
      refine mg_getNN (pc := 79) (ci := 0) (k := 2) hC mi_0 rfl (by decide) mw_226 dX0_init_79 (fun v5 _ => ?_)
      refine mg_iload_n (pc := 82) hC 2 dX0_init_82 rfl ?_
      refine mg_aload_n (pc := 83) hC 0 dX0_init_83 rfl ?_
      refine mg_getI (pc := 84) (ci := 0) (k := 3) hC mi_0 rfl (by decide) mw_227 dX0_init_84 (fun v6 _ => ?_)
      refine mg_iast (pc := 87) hC dX0_init_87 (fun w7 _ => ?_)
      refine mg_iinc (pc := 88) hC 2 (x2 + (1 : Int32)) [(2, .int (x2 + (1 : Int32))), (0, .ref x0), (1, .ref x1)] dX0_init_88 rfl rfl (by decide) rfl ?_
      refine mg_goto (pc := 91) hC 61 dX0_init_91 (by decide) ?_
      exact mg_sub (pc := 61) [1, 2, 0] (L' := [(0, .ref x0), (1, .ref x1), (2, .int (x2 + (1 : Int32)))]) rfl (ih _ _ _ _ _ _ _)
def fX0_init (x0 : Nat) (w : mg_H) (sz : Nat) : Option (Unit × mg_H × Nat × Nat) := mg_naI w sz 0 (236 : Int32) fun w1 => (mg_pQ w1 0 x0 0 (some sz)).bind fun w2 => mg_naI w2 (sz + 1) 0 (236 : Int32) fun w3 => (mg_pQ w3 0 x0 1 (some (sz + 1))).bind fun w4 => mg_naI w4 (sz + 1 + 1) 0 (9 : Int32) fun w5 => (mg_pQ w5 0 x0 2 (some (sz + 1 + 1))).bind fun w6 => (mg_pI w6 0 x0 3 (0 : Int32)).bind fun w7 => mg_rc w7 0 x0 (mg_bS (fX0_join x0 (0 : Int32) (0 : Int32) w7) fun _ w9 => mg_gN w9 0 x0 2 fun v10 => (mg_gI w9 0 x0 3).bind fun v11 => (mg_stI w9 v10 (1 : Int32) v11).bind fun w12 => (fX3_ones (8 : Int32)).bind fun v13 => mg_naI w12 (sz + 1 + 1 + 1) 1 v13 fun w14 => fX0_init_b61 mg_N x0 (sz + 1 + 1 + 1) (2 : Int32) w14 (sz + 1 + 1 + 1 + 1))
set_option maxHeartbeats 4000000 in
set_option maxRecDepth 100000 in
theorem kX0_init {E : mg_P} {l : Launch} {x0 : Nat} {w : mg_H} {sz : Nat} {o : Unit × mg_H × Nat × Nat} (hf : fX0_init x0 w sz = some o) : mg_C E l yX0_init cX0_init 3 none 3 74 [.ref x0] w sz ((mg_oA mg_vV) o) := by
  refine mg_meth (out := (mg_oA mg_vV)) (by decide) (Nat.le_of_ble_eq_true rfl) hf ?_
  intro p e C S s m below meth c hC hin
  have hC : mg_Cx E p s m _ meth c cX0_init 3 none RX0 := hC
  have hin : meth.name = "<init>" := hin
  unfold fX0_init
  refine mg_sub (pc := 0) [0] (L' := [(0, .ref x0)]) rfl ?_
  refine mg_aload_n (pc := 0) hC 0 dX0_init_0 rfl ?_
  refine mg_objInit (pc := 1) hC mw_200 mw_13 mw_14 (Nat.le_of_ble_eq_true rfl) (Nat.le_of_ble_eq_true rfl) dX0_init_1 ?_
  refine mg_aload_n (pc := 4) hC 0 dX0_init_4 rfl ?_
  refine mg_sipush (pc := 5) hC (236 : Int32) dX0_init_5 (by decide) ?_
  refine mg_newaI (pc := 8) hC mw_35 dX0_init_8 ?_
  refine mg_putQ (pc := 10) (ci := 0) (k := 0) (v := (some sz)) hC mi_0 rfl (by decide) tyX0 tyX0_ok nmX0 mw_224 dX0_init_10 (Or.inr ⟨rfl, hin, rfl⟩) mg_rfA mg_ftA (fun w2 _ => ?_)
  refine mg_aload_n (pc := 13) hC 0 dX0_init_13 rfl ?_
  refine mg_sipush (pc := 14) hC (236 : Int32) dX0_init_14 (by decide) ?_
  refine mg_newaI (pc := 17) hC mw_35 dX0_init_17 ?_
  refine mg_putQ (pc := 19) (ci := 0) (k := 1) (v := (some (sz + 1))) hC mi_0 rfl (by decide) tyX0 tyX0_ok nmX0 mw_225 dX0_init_19 (Or.inr ⟨rfl, hin, rfl⟩) mg_rfA mg_ftA (fun w4 _ => ?_)
  refine mg_aload_n (pc := 22) hC 0 dX0_init_22 rfl ?_
  refine mg_bipush (pc := 23) hC (9 : Int32) dX0_init_23 (by decide) ?_
  refine mg_newaI (pc := 25) hC mw_35 dX0_init_25 ?_
  refine mg_putQ (pc := 27) (ci := 0) (k := 2) (v := (some (sz + 1 + 1))) hC mi_0 rfl (by decide) tyX0 tyX0_ok nmX0 mw_226 dX0_init_27 (Or.inr ⟨rfl, hin, rfl⟩) mg_rfA mg_ftA (fun w6 _ => ?_)
  refine mg_aload_n (pc := 30) hC 0 dX0_init_30 rfl ?_
  refine mg_iconst (pc := 31) hC (0 : Int32) dX0_init_31 (by decide) ?_
  refine mg_putI (pc := 32) (ci := 0) (k := 3) hC mi_0 rfl (by decide) tyX0 tyX0_ok nmX0 mw_227 dX0_init_32 (Or.inl rfl) rfl (fun w7 _ => ?_)
  refine mg_aload_n (pc := 35) hC 0 dX0_init_35 rfl ?_
  refine mg_iconst (pc := 36) hC (0 : Int32) dX0_init_36 (by decide) ?_
  refine mg_iconst (pc := 37) hC (0 : Int32) dX0_init_37 (by decide) ?_
  refine mg_recv (ci := 0) (fun hb => ?_)
  refine mg_cSV (pc := 38) (fun r hr => mg_VR (rest := []) (av := [.int (0 : Int32), .int (0 : Int32)]) (ci := 0) hC wdX0_join mw_201 dX0_init_38 rfl rfl ⟨Nat.le_of_ble_eq_true rfl, Nat.le_of_ble_eq_true rfl⟩ (Nat.le_of_ble_eq_true rfl) hb (kX0_join hr)) (fun _ w9 _ => ?_)
  refine mg_aload_n (pc := 41) hC 0 dX0_init_41 rfl ?_
  refine mg_getNN (pc := 42) (ci := 0) (k := 2) hC mi_0 rfl (by decide) mw_226 dX0_init_42 (fun v10 _ => ?_)
  refine mg_iconst (pc := 45) hC (1 : Int32) dX0_init_45 (by decide) ?_
  refine mg_aload_n (pc := 46) hC 0 dX0_init_46 rfl ?_
  refine mg_getI (pc := 47) (ci := 0) (k := 3) hC mi_0 rfl (by decide) mw_227 dX0_init_47 (fun v11 _ => ?_)
  refine mg_iast (pc := 50) hC dX0_init_50 (fun w12 _ => ?_)
  refine mg_bipush (pc := 51) hC (8 : Int32) dX0_init_51 (by decide) ?_
  refine mg_cRI (pc := 53) (fun r hr => mg_SN (rest := []) hC wdX3_ones mw_121 (List.mem_of_getElem? (i := 4) rfl) dX0_init_53 rfl rfl ⟨Nat.le_of_ble_eq_true rfl, Nat.le_of_ble_eq_true rfl⟩ (Nat.le_of_ble_eq_true rfl) (kX3_ones hr)) (fun v13 _ => ?_)
  refine mg_newaZ (pc := 56) hC mw_237 dX0_init_56 ?_
  refine mg_astore_n (pc := 58) hC [(1, .ref (sz + 1 + 1 + 1)), (0, .ref x0)] dX0_init_58 (by decide) rfl ?_
  refine mg_iconst (pc := 59) hC (2 : Int32) dX0_init_59 (by decide) ?_
  refine mg_istore_n (pc := 60) hC [(2, .int (2 : Int32)), (1, .ref (sz + 1 + 1 + 1)), (0, .ref x0)] dX0_init_60 (by decide) rfl ?_
  exact mg_sub (pc := 61) [2, 1, 0] (L' := [(0, .ref x0), (1, .ref (sz + 1 + 1 + 1)), (2, .int (2 : Int32))]) rfl (gX0_init_b61 hC hin   _ _ _ _ _ _ _ _)
theorem wdX0_init : mg_Wd yX0_init cX0_init 3 none 0 := ⟨mw_199, mw_5, by decide, by decide, by decide +kernel⟩
def fX0_isMade (x0 : Nat) (x1 : Int32) (w : mg_H) : Option (Int32) := if x1 < 0 then (some (0 : Int32)) else ((mg_gI w 0 x0 3).bind fun v1 => if v1 ≤ x1 then (some (0 : Int32)) else (some (1 : Int32)))
set_option maxHeartbeats 4000000 in
set_option maxRecDepth 100000 in
theorem kX0_isMade {E : mg_P} {l : Launch} {x0 : Nat} {x1 : Int32} {w : mg_H} {sz : Nat} {o : Int32} (hf : fX0_isMade x0 x1 w = some o) : mg_C E l yX0_isMade cX0_isMade 2 (some .boolean) 0 0 [.ref x0, .int x1] w sz ((mg_oR mg_vI w) o) := by
  refine mg_meth (out := (mg_oR mg_vI w)) (by decide) (Nat.le_of_ble_eq_true rfl) hf ?_
  intro p e C S s m below meth c hC hin
  have hC : mg_Cx E p s m _ meth c cX0_isMade 2 (some .boolean) RX0 := hC
  unfold fX0_isMade
  refine mg_sub (pc := 0) [0, 1] (L' := [(0, .ref x0), (1, .int x1)]) rfl ?_
  refine mg_iload_n (pc := 0) hC 1 dX0_isMade_0 rfl ?_
  refine mg_if_lt (pc := 1) hC 16 dX0_isMade_1 (by decide) (fun _ => ?_) (fun _ => ?_)
  · refine mg_iconst (pc := 16) hC (0 : Int32) dX0_isMade_16 (by decide) ?_
    exact mg_zretC (pc := 17) hC (by decide) rfl dX0_isMade_17
  · refine mg_iload_n (pc := 4) hC 1 dX0_isMade_4 rfl ?_
    refine mg_aload_n (pc := 5) hC 0 dX0_isMade_5 rfl ?_
    refine mg_getI (pc := 6) (ci := 0) (k := 3) hC mi_0 rfl (by decide) mw_227 dX0_isMade_6 (fun v1 _ => ?_)
    refine mg_icmp_ge (pc := 9) hC 16 dX0_isMade_9 (by decide) (fun _ => ?_) (fun _ => ?_)
    · refine mg_iconst (pc := 16) hC (0 : Int32) dX0_isMade_16 (by decide) ?_
      exact mg_zretC (pc := 17) hC (by decide) rfl dX0_isMade_17
    · refine mg_iconst (pc := 12) hC (1 : Int32) dX0_isMade_12 (by decide) ?_
      refine mg_goto (pc := 13) hC 17 dX0_isMade_13 (by decide) ?_
      exact mg_zretC (pc := 17) hC (by decide) rfl dX0_isMade_17
theorem wdX0_isMade : mg_WdV 0 yX0_isMade cX0_isMade 2 (some .boolean) 1 := ⟨⟨mw_258, mw_5, by decide, by decide, by decide +kernel⟩, _, rfl, mw_257, mw_p10⟩
def fX0_amountUpTo (x0 : Nat) (x1 : Int32) (w : mg_H) : Option (Int32) := if x1 < (1 : Int32) then (some (0 : Int32)) else (mg_gN w 0 x0 2 fun v1 => (mg_len w v1).bind fun v2 => if v2 ≤ x1 then (some (0 : Int32)) else (mg_gN w 0 x0 2 fun v3 => (mg_ldI w 0 v3 x1).bind fun v4 => some v4))
set_option maxHeartbeats 4000000 in
set_option maxRecDepth 100000 in
theorem kX0_amountUpTo {E : mg_P} {l : Launch} {x0 : Nat} {x1 : Int32} {w : mg_H} {sz : Nat} {o : Int32} (hf : fX0_amountUpTo x0 x1 w = some o) : mg_C E l yX0_amountUpTo cX0_amountUpTo 2 (some .int) 0 0 [.ref x0, .int x1] w sz ((mg_oR mg_vI w) o) := by
  refine mg_meth (out := (mg_oR mg_vI w)) (by decide) (Nat.le_of_ble_eq_true rfl) hf ?_
  intro p e C S s m below meth c hC hin
  have hC : mg_Cx E p s m _ meth c cX0_amountUpTo 2 (some .int) RX0 := hC
  unfold fX0_amountUpTo
  refine mg_sub (pc := 0) [0, 1] (L' := [(0, .ref x0), (1, .int x1)]) rfl ?_
  refine mg_iload_n (pc := 0) hC 1 dX0_amountUpTo_0 rfl ?_
  refine mg_iconst (pc := 1) hC (1 : Int32) dX0_amountUpTo_1 (by decide) ?_
  refine mg_icmp_lt (pc := 2) hC 23 dX0_amountUpTo_2 (by decide) (fun _ => ?_) (fun _ => ?_)
  · refine mg_iconst (pc := 23) hC (0 : Int32) dX0_amountUpTo_23 (by decide) ?_
    exact mg_iret (pc := 24) hC rfl dX0_amountUpTo_24
  · refine mg_iload_n (pc := 5) hC 1 dX0_amountUpTo_5 rfl ?_
    refine mg_aload_n (pc := 6) hC 0 dX0_amountUpTo_6 rfl ?_
    refine mg_getNN (pc := 7) (ci := 0) (k := 2) hC mi_0 rfl (by decide) mw_226 dX0_amountUpTo_7 (fun v1 _ => ?_)
    refine mg_alen (pc := 10) hC dX0_amountUpTo_10 (fun v2 _ => ?_)
    refine mg_icmp_ge (pc := 11) hC 23 dX0_amountUpTo_11 (by decide) (fun _ => ?_) (fun _ => ?_)
    · refine mg_iconst (pc := 23) hC (0 : Int32) dX0_amountUpTo_23 (by decide) ?_
      exact mg_iret (pc := 24) hC rfl dX0_amountUpTo_24
    · refine mg_aload_n (pc := 14) hC 0 dX0_amountUpTo_14 rfl ?_
      refine mg_getNN (pc := 15) (ci := 0) (k := 2) hC mi_0 rfl (by decide) mw_226 dX0_amountUpTo_15 (fun v3 _ => ?_)
      refine mg_iload_n (pc := 18) hC 1 dX0_amountUpTo_18 rfl ?_
      refine mg_iald (pc := 19) hC dX0_amountUpTo_19 (fun v4 _ => ?_)
      refine mg_goto (pc := 20) hC 24 dX0_amountUpTo_20 (by decide) ?_
      exact mg_iret (pc := 24) hC rfl dX0_amountUpTo_24
theorem wdX0_amountUpTo : mg_WdV 0 yX0_amountUpTo cX0_amountUpTo 2 (some .int) 1 := ⟨⟨mw_245, mw_5, by decide, by decide, by decide +kernel⟩, _, rfl, mw_243, mw_244⟩
def fX0_amountOf (x0 : Nat) (x1 : Int32) (w : mg_H) : Option (Int32) := mg_rc w 0 x0 ((fX0_amountUpTo x0 x1 w).bind fun v1 => mg_rc w 0 x0 ((fX0_amountUpTo x0 (x1 - (1 : Int32)) w).bind fun v2 => some (v1 - v2)))
set_option maxHeartbeats 4000000 in
set_option maxRecDepth 100000 in
theorem kX0_amountOf {E : mg_P} {l : Launch} {x0 : Nat} {x1 : Int32} {w : mg_H} {sz : Nat} {o : Int32} (hf : fX0_amountOf x0 x1 w = some o) : mg_C E l yX0_amountOf cX0_amountOf 2 (some .int) 1 21 [.ref x0, .int x1] w sz ((mg_oR mg_vI w) o) := by
  refine mg_meth (out := (mg_oR mg_vI w)) (by decide) (Nat.le_of_ble_eq_true rfl) hf ?_
  intro p e C S s m below meth c hC hin
  have hC : mg_Cx E p s m _ meth c cX0_amountOf 2 (some .int) RX0 := hC
  unfold fX0_amountOf
  refine mg_sub (pc := 0) [0, 1] (L' := [(0, .ref x0), (1, .int x1)]) rfl ?_
  refine mg_aload_n (pc := 0) hC 0 dX0_amountOf_0 rfl ?_
  refine mg_iload_n (pc := 1) hC 1 dX0_amountOf_1 rfl ?_
  refine mg_recv (ci := 0) (fun hb => ?_)
  refine mg_cRI (pc := 2) (fun r hr => mg_VR (rest := []) (av := [.int x1]) (ci := 0) hC wdX0_amountUpTo mw_242 dX0_amountOf_2 rfl rfl ⟨Nat.le_of_ble_eq_true rfl, Nat.le_of_ble_eq_true rfl⟩ (Nat.le_of_ble_eq_true rfl) hb (kX0_amountUpTo hr)) (fun v1 _ => ?_)
  refine mg_aload_n (pc := 5) hC 0 dX0_amountOf_5 rfl ?_
  refine mg_iload_n (pc := 6) hC 1 dX0_amountOf_6 rfl ?_
  refine mg_iconst (pc := 7) hC (1 : Int32) dX0_amountOf_7 (by decide) ?_
  refine mg_isub (pc := 8) hC dX0_amountOf_8 ?_
  refine mg_recv (ci := 0) (fun hb => ?_)
  refine mg_cRI (pc := 9) (fun r hr => mg_VR (rest := [.int v1]) (av := [.int (x1 - (1 : Int32))]) (ci := 0) hC wdX0_amountUpTo mw_242 dX0_amountOf_9 rfl rfl ⟨Nat.le_of_ble_eq_true rfl, Nat.le_of_ble_eq_true rfl⟩ (Nat.le_of_ble_eq_true rfl) hb (kX0_amountUpTo hr)) (fun v2 _ => ?_)
  refine mg_isub (pc := 12) hC dX0_amountOf_12 ?_
  exact mg_iret (pc := 13) hC rfl dX0_amountOf_13
theorem wdX0_amountOf : mg_WdV 0 yX0_amountOf cX0_amountOf 2 (some .int) 1 := ⟨⟨mw_241, mw_5, by decide, by decide, by decide +kernel⟩, _, rfl, mw_239, mw_240⟩
def fX0_lengthOf_b2 (w : mg_H) : Nat → Nat → Int32 → Int32 → Option (Int32)
  | 0, _, _, _ => none
  | n + 1, x0, x1, x2 => if (8 : Int32) ≤ x2 then (some x2) else (mg_rc w 0 x0 ((fX0_amountUpTo x0 x2 w).bind fun v1 => if x1 < v1 then (some x2) else (fX0_lengthOf_b2 w n x0 x1 (x2 + (1 : Int32)))))
set_option maxHeartbeats 4000000 in
set_option maxRecDepth 100000 in
theorem gX0_lengthOf_b2 (hC : mg_Cx E p s m args meth c cX0_lengthOf 3 (some .int) RX0) (w : mg_H) (sz : Nat) : ∀ (n : Nat) (x0 : Nat) (x1 : Int32) (x2 : Int32) (cells slots : Nat), mg_G E p l e ({ frames := 1, cells := C, slots := S, locals := 21 } : Room) s m args below meth c 3 (mg_oR mg_vI w) (fX0_lengthOf_b2 w n x0 x1 x2) w sz cells slots 2 [(0, .ref x0), (1, .int x1), (2, .int x2)] [] := by
  intro n
  induction n with
  | zero => intros; exact fun o hf => by rw [fX0_lengthOf_b2] at hf; cases hf
  | succ n ih =>
    intro x0 x1 x2 cells slots
    rw [fX0_lengthOf_b2]
    refine mg_iload_n (pc := 2) hC 2 dX0_lengthOf_2 rfl ?_
    refine mg_bipush (pc := 3) hC (8 : Int32) dX0_lengthOf_3 (by decide) ?_
    refine mg_icmp_ge (pc := 5) hC 23 dX0_lengthOf_5 (by decide) (fun _ => ?_) (fun _ => ?_)
    · refine mg_iload_n (pc := 23) hC 2 dX0_lengthOf_23 rfl ?_
      exact mg_iret (pc := 24) hC rfl dX0_lengthOf_24
    · refine mg_iload_n (pc := 8) hC 1 dX0_lengthOf_8 rfl ?_
      refine mg_aload_n (pc := 9) hC 0 dX0_lengthOf_9 rfl ?_
      refine mg_iload_n (pc := 10) hC 2 dX0_lengthOf_10 rfl ?_
      refine mg_recv (ci := 0) (fun hb => ?_)
      refine mg_cRI (pc := 11) (fun r hr => mg_VR (rest := [.int x1]) (av := [.int x2]) (ci := 0) hC wdX0_amountUpTo mw_242 dX0_lengthOf_11 rfl rfl ⟨Nat.le_of_ble_eq_true rfl, Nat.le_of_ble_eq_true rfl⟩ (Nat.le_of_ble_eq_true rfl) hb (kX0_amountUpTo hr)) (fun v1 _ => ?_)
      refine mg_icmp_lt (pc := 14) hC 23 dX0_lengthOf_14 (by decide) (fun _ => ?_) (fun _ => ?_)
      · refine mg_iload_n (pc := 23) hC 2 dX0_lengthOf_23 rfl ?_
        exact mg_iret (pc := 24) hC rfl dX0_lengthOf_24
      · refine mg_iinc (pc := 17) hC 2 (x2 + (1 : Int32)) [(2, .int (x2 + (1 : Int32))), (0, .ref x0), (1, .int x1)] dX0_lengthOf_17 rfl rfl (by decide) rfl ?_
        refine mg_goto (pc := 20) hC 2 dX0_lengthOf_20 (by decide) ?_
        exact mg_sub (pc := 2) [1, 2, 0] (L' := [(0, .ref x0), (1, .int x1), (2, .int (x2 + (1 : Int32)))]) rfl (ih _ _ _ _ _)
def fX0_lengthOf (x0 : Nat) (x1 : Int32) (w : mg_H) : Option (Int32) := fX0_lengthOf_b2 w mg_N x0 x1 (1 : Int32)
set_option maxHeartbeats 4000000 in
set_option maxRecDepth 100000 in
theorem kX0_lengthOf {E : mg_P} {l : Launch} {x0 : Nat} {x1 : Int32} {w : mg_H} {sz : Nat} {o : Int32} (hf : fX0_lengthOf x0 x1 w = some o) : mg_C E l yX0_lengthOf cX0_lengthOf 3 (some .int) 1 21 [.ref x0, .int x1] w sz ((mg_oR mg_vI w) o) := by
  refine mg_meth (out := (mg_oR mg_vI w)) (by decide) (Nat.le_of_ble_eq_true rfl) hf ?_
  intro p e C S s m below meth c hC hin
  have hC : mg_Cx E p s m _ meth c cX0_lengthOf 3 (some .int) RX0 := hC
  unfold fX0_lengthOf
  refine mg_sub (pc := 0) [0, 1] (L' := [(0, .ref x0), (1, .int x1)]) rfl ?_
  refine mg_iconst (pc := 0) hC (1 : Int32) dX0_lengthOf_0 (by decide) ?_
  refine mg_istore_n (pc := 1) hC [(2, .int (1 : Int32)), (0, .ref x0), (1, .int x1)] dX0_lengthOf_1 (by decide) rfl ?_
  exact mg_sub (pc := 2) [1, 2, 0] (L' := [(0, .ref x0), (1, .int x1), (2, .int (1 : Int32))]) rfl (gX0_lengthOf_b2 hC _ _  _ _ _ _ _ _)
theorem wdX0_lengthOf : mg_WdV 0 yX0_lengthOf cX0_lengthOf 3 (some .int) 1 := ⟨⟨mw_301, mw_5, by decide, by decide, by decide +kernel⟩, _, rfl, mw_299, mw_300⟩
def fX0_pairWith_b2 (w : mg_H) : Nat → Nat → Int32 → Int32 → Option (Int32)
  | 0, _, _, _ => none
  | n + 1, x0, x1, x2 => (mg_gI w 0 x0 3).bind fun v1 => if v1 ≤ x2 then (some (-1 : Int32)) else (mg_gN w 0 x0 0 fun v2 => (mg_ldI w 0 v2 x2).bind fun v3 => if v3 = x1 then (some x2) else (mg_gN w 0 x0 1 fun v4 => (mg_ldI w 0 v4 x2).bind fun v5 => if v5 = x1 then (some x2) else (fX0_pairWith_b2 w n x0 x1 (x2 + (1 : Int32)))))
set_option maxHeartbeats 4000000 in
set_option maxRecDepth 100000 in
theorem gX0_pairWith_b2 (hC : mg_Cx E p s m args meth c cX0_pairWith 3 (some .int) RX0) (w : mg_H) (sz : Nat) : ∀ (n : Nat) (x0 : Nat) (x1 : Int32) (x2 : Int32) (cells slots : Nat), mg_G E p l e ({ frames := 0, cells := C, slots := S, locals := 0 } : Room) s m args below meth c 3 (mg_oR mg_vI w) (fX0_pairWith_b2 w n x0 x1 x2) w sz cells slots 2 [(0, .ref x0), (1, .int x1), (2, .int x2)] [] := by
  intro n
  induction n with
  | zero => intros; exact fun o hf => by rw [fX0_pairWith_b2] at hf; cases hf
  | succ n ih =>
    intro x0 x1 x2 cells slots
    rw [fX0_pairWith_b2]
    refine mg_iload_n (pc := 2) hC 2 dX0_pairWith_2 rfl ?_
    refine mg_aload_n (pc := 3) hC 0 dX0_pairWith_3 rfl ?_
    refine mg_getI (pc := 4) (ci := 0) (k := 3) hC mi_0 rfl (by decide) mw_227 dX0_pairWith_4 (fun v1 _ => ?_)
    refine mg_icmp_ge (pc := 7) hC 38 dX0_pairWith_7 (by decide) (fun _ => ?_) (fun _ => ?_)
    · refine mg_iconst (pc := 38) hC (-1 : Int32) dX0_pairWith_38 (by decide) ?_
      exact mg_iret (pc := 39) hC rfl dX0_pairWith_39
    · refine mg_aload_n (pc := 10) hC 0 dX0_pairWith_10 rfl ?_
      refine mg_getNN (pc := 11) (ci := 0) (k := 0) hC mi_0 rfl (by decide) mw_224 dX0_pairWith_11 (fun v2 _ => ?_)
      refine mg_iload_n (pc := 14) hC 2 dX0_pairWith_14 rfl ?_
      refine mg_iald (pc := 15) hC dX0_pairWith_15 (fun v3 _ => ?_)
      refine mg_iload_n (pc := 16) hC 1 dX0_pairWith_16 rfl ?_
      refine mg_icmp_eq (pc := 17) hC 30 dX0_pairWith_17 (by decide) (fun _ => ?_) (fun _ => ?_)
      · refine mg_iload_n (pc := 30) hC 2 dX0_pairWith_30 rfl ?_
        exact mg_iret (pc := 31) hC rfl dX0_pairWith_31
      · refine mg_aload_n (pc := 20) hC 0 dX0_pairWith_20 rfl ?_
        refine mg_getNN (pc := 21) (ci := 0) (k := 1) hC mi_0 rfl (by decide) mw_225 dX0_pairWith_21 (fun v4 _ => ?_)
        refine mg_iload_n (pc := 24) hC 2 dX0_pairWith_24 rfl ?_
        refine mg_iald (pc := 25) hC dX0_pairWith_25 (fun v5 _ => ?_)
        refine mg_iload_n (pc := 26) hC 1 dX0_pairWith_26 rfl ?_
        refine mg_icmp_ne (pc := 27) hC 32 dX0_pairWith_27 (by decide) (fun _ => ?_) (fun _ => ?_)
        · refine mg_iload_n (pc := 30) hC 2 dX0_pairWith_30 rfl ?_
          exact mg_iret (pc := 31) hC rfl dX0_pairWith_31
        · refine mg_iinc (pc := 32) hC 2 (x2 + (1 : Int32)) [(2, .int (x2 + (1 : Int32))), (0, .ref x0), (1, .int x1)] dX0_pairWith_32 rfl rfl (by decide) rfl ?_
          refine mg_goto (pc := 35) hC 2 dX0_pairWith_35 (by decide) ?_
          exact mg_sub (pc := 2) [1, 2, 0] (L' := [(0, .ref x0), (1, .int x1), (2, .int (x2 + (1 : Int32)))]) rfl (ih _ _ _ _ _)
def fX0_pairWith (x0 : Nat) (x1 : Int32) (w : mg_H) : Option (Int32) := fX0_pairWith_b2 w mg_N x0 x1 (0 : Int32)
set_option maxHeartbeats 4000000 in
set_option maxRecDepth 100000 in
theorem kX0_pairWith {E : mg_P} {l : Launch} {x0 : Nat} {x1 : Int32} {w : mg_H} {sz : Nat} {o : Int32} (hf : fX0_pairWith x0 x1 w = some o) : mg_C E l yX0_pairWith cX0_pairWith 3 (some .int) 0 0 [.ref x0, .int x1] w sz ((mg_oR mg_vI w) o) := by
  refine mg_meth (out := (mg_oR mg_vI w)) (by decide) (Nat.le_of_ble_eq_true rfl) hf ?_
  intro p e C S s m below meth c hC hin
  have hC : mg_Cx E p s m _ meth c cX0_pairWith 3 (some .int) RX0 := hC
  unfold fX0_pairWith
  refine mg_sub (pc := 0) [0, 1] (L' := [(0, .ref x0), (1, .int x1)]) rfl ?_
  refine mg_iconst (pc := 0) hC (0 : Int32) dX0_pairWith_0 (by decide) ?_
  refine mg_istore_n (pc := 1) hC [(2, .int (0 : Int32)), (0, .ref x0), (1, .int x1)] dX0_pairWith_1 (by decide) rfl ?_
  exact mg_sub (pc := 2) [1, 2, 0] (L' := [(0, .ref x0), (1, .int x1), (2, .int (0 : Int32))]) rfl (gX0_pairWith_b2 hC _ _  _ _ _ _ _ _)
theorem wdX0_pairWith : mg_WdV 0 yX0_pairWith cX0_pairWith 3 (some .int) 1 := ⟨⟨mw_275, mw_5, by decide, by decide, by decide +kernel⟩, _, rfl, mw_273, mw_274⟩
end MG00
