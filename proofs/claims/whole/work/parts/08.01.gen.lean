section MG01
variable {E : mg_P} {p : Program} {l : Launch} {e : Env} {C S : Nat} {s : State} {m : MethodId} {args : Array Value} {below : List Frame} {meth : Method} {c : Code}
def fX0_otherEnd (x0 : Nat) (x1 : Int32) (x2 : Int32) (w : mg_H) : Option (Int32) := mg_rc w 0 x0 ((fX0_isMade x0 x1 w).bind fun v1 => if v1 = 0 then (some x2) else (mg_gN w 0 x0 0 fun v2 => (mg_ldI w 0 v2 x1).bind fun v3 => if v3 = x2 then (mg_gN w 0 x0 1 fun v4 => (mg_ldI w 0 v4 x1).bind fun v5 => some v5) else (mg_gN w 0 x0 0 fun v6 => (mg_ldI w 0 v6 x1).bind fun v7 => some v7)))
set_option maxHeartbeats 4000000 in
set_option maxRecDepth 100000 in
theorem kX0_otherEnd {E : mg_P} {l : Launch} {x0 : Nat} {x1 : Int32} {x2 : Int32} {w : mg_H} {sz : Nat} {o : Int32} (hf : fX0_otherEnd x0 x1 x2 w = some o) : mg_C E l yX0_otherEnd cX0_otherEnd 3 (some .int) 1 21 [.ref x0, .int x1, .int x2] w sz ((mg_oR mg_vI w) o) := by
  refine mg_meth (out := (mg_oR mg_vI w)) (by decide) (Nat.le_of_ble_eq_true rfl) hf ?_
  intro p e C S s m below meth c hC hin
  have hC : mg_Cx E p s m _ meth c cX0_otherEnd 3 (some .int) RX0 := hC
  unfold fX0_otherEnd
  refine mg_sub (pc := 0) [0, 1, 2] (L' := [(0, .ref x0), (1, .int x1), (2, .int x2)]) rfl ?_
  refine mg_aload_n (pc := 0) hC 0 dX0_otherEnd_0 rfl ?_
  refine mg_iload_n (pc := 1) hC 1 dX0_otherEnd_1 rfl ?_
  refine mg_recv (ci := 0) (fun hb => ?_)
  refine mg_cRI (pc := 2) (fun r hr => mg_VR (rest := []) (av := [.int x1]) (ci := 0) hC wdX0_isMade mw_255 dX0_otherEnd_2 rfl rfl ⟨Nat.le_of_ble_eq_true rfl, Nat.le_of_ble_eq_true rfl⟩ (Nat.le_of_ble_eq_true rfl) hb (kX0_isMade hr)) (fun v1 _ => ?_)
  refine mg_if_ne (pc := 5) hC 10 dX0_otherEnd_5 (by decide) (fun _ => ?_) (fun _ => ?_)
  · refine mg_iload_n (pc := 8) hC 2 dX0_otherEnd_8 rfl ?_
    exact mg_iret (pc := 9) hC rfl dX0_otherEnd_9
  · refine mg_aload_n (pc := 10) hC 0 dX0_otherEnd_10 rfl ?_
    refine mg_getNN (pc := 11) (ci := 0) (k := 0) hC mi_0 rfl (by decide) mw_224 dX0_otherEnd_11 (fun v2 _ => ?_)
    refine mg_iload_n (pc := 14) hC 1 dX0_otherEnd_14 rfl ?_
    refine mg_iald (pc := 15) hC dX0_otherEnd_15 (fun v3 _ => ?_)
    refine mg_iload_n (pc := 16) hC 2 dX0_otherEnd_16 rfl ?_
    refine mg_icmp_ne (pc := 17) hC 29 dX0_otherEnd_17 (by decide) (fun _ => ?_) (fun _ => ?_)
    · refine mg_aload_n (pc := 20) hC 0 dX0_otherEnd_20 rfl ?_
      refine mg_getNN (pc := 21) (ci := 0) (k := 1) hC mi_0 rfl (by decide) mw_225 dX0_otherEnd_21 (fun v4 _ => ?_)
      refine mg_iload_n (pc := 24) hC 1 dX0_otherEnd_24 rfl ?_
      refine mg_iald (pc := 25) hC dX0_otherEnd_25 (fun v5 _ => ?_)
      refine mg_goto (pc := 26) hC 35 dX0_otherEnd_26 (by decide) ?_
      exact mg_iret (pc := 35) hC rfl dX0_otherEnd_35
    · refine mg_aload_n (pc := 29) hC 0 dX0_otherEnd_29 rfl ?_
      refine mg_getNN (pc := 30) (ci := 0) (k := 0) hC mi_0 rfl (by decide) mw_224 dX0_otherEnd_30 (fun v6 _ => ?_)
      refine mg_iload_n (pc := 33) hC 1 dX0_otherEnd_33 rfl ?_
      refine mg_iald (pc := 34) hC dX0_otherEnd_34 (fun v7 _ => ?_)
      exact mg_iret (pc := 35) hC rfl dX0_otherEnd_35
theorem wdX0_otherEnd : mg_WdV 0 yX0_otherEnd cX0_otherEnd 3 (some .int) 2 := ⟨⟨mw_279, mw_5, by decide, by decide, by decide +kernel⟩, _, rfl, mw_277, mw_278⟩
def fX0_digitsOf_b31 (w : mg_H) (x3 : Int32) (s0 : Int64) : Option (Int32) := (fX3_ones x3).bind fun v1 => (fX3_over (21082635 : Int64) (v1.toInt64)).bind fun v2 => (fX3_over s0 v2).bind fun v3 => some (v3.toInt32)
set_option maxHeartbeats 4000000 in
set_option maxRecDepth 100000 in
theorem gX0_digitsOf_b31 (hC : mg_Cx E p s m args meth c cX0_digitsOf 4 (some .int) RX0) (w : mg_H) (sz : Nat) (x3 : Int32) (s0 : Int64) (cells slots : Nat) : mg_G E p l e ({ frames := 1, cells := C, slots := S, locals := 23 } : Room) s m args below meth c 4 (mg_oR mg_vI w) (fX0_digitsOf_b31 w x3 s0) w sz cells slots 31 [(3, .int x3)] [.long s0] := by
  unfold fX0_digitsOf_b31
  refine mg_ldc2 (pc := 31) hC (21082635 : Int64) dX0_digitsOf_31 mw_214 ?_
  refine mg_iload_n (pc := 34) hC 0 dX0_digitsOf_34 rfl ?_
  refine mg_cRI (pc := 35) (fun r hr => mg_SN (rest := [.long (21082635 : Int64), .long s0]) hC wdX3_ones mw_121 (List.mem_of_getElem? (i := 4) rfl) dX0_digitsOf_35 rfl rfl ⟨Nat.le_of_ble_eq_true rfl, Nat.le_of_ble_eq_true rfl⟩ (Nat.le_of_ble_eq_true rfl) (kX3_ones hr)) (fun v1 _ => ?_)
  refine mg_i2l (pc := 38) hC dX0_digitsOf_38 ?_
  refine mg_cRL (pc := 39) (fun r hr => mg_SN (rest := [.long s0]) hC wdX3_over mw_54 (List.mem_of_getElem? (i := 6) rfl) dX0_digitsOf_39 rfl rfl ⟨Nat.le_of_ble_eq_true rfl, Nat.le_of_ble_eq_true rfl⟩ (Nat.le_of_ble_eq_true rfl) (kX3_over hr)) (fun v2 _ => ?_)
  refine mg_cRL (pc := 42) (fun r hr => mg_SN (rest := []) hC wdX3_over mw_54 (List.mem_of_getElem? (i := 6) rfl) dX0_digitsOf_42 rfl rfl ⟨Nat.le_of_ble_eq_true rfl, Nat.le_of_ble_eq_true rfl⟩ (Nat.le_of_ble_eq_true rfl) (kX3_over hr)) (fun v3 _ => ?_)
  refine mg_l2i (pc := 45) hC dX0_digitsOf_45 ?_
  exact mg_iret (pc := 46) hC rfl dX0_digitsOf_46
def fX0_digitsOf (x0 : Nat) (x1 : Int32) (x2 : Int32) (x3 : Int32) (w : mg_H) : Option (Int32) := mg_rc w 0 x0 ((fX0_isMade x0 x1 w).bind fun v1 => if v1 = 0 then (some (0 : Int32)) else (if x2 = 0 then (mg_gN w 0 x0 0 fun v2 => (mg_ldI w 0 v2 x1).bind fun v3 => fX0_digitsOf_b31 w x3 (v3.toInt64)) else (mg_gN w 0 x0 1 fun v4 => (mg_ldI w 0 v4 x1).bind fun v5 => fX0_digitsOf_b31 w x3 (v5.toInt64))))
set_option maxHeartbeats 4000000 in
set_option maxRecDepth 100000 in
theorem kX0_digitsOf {E : mg_P} {l : Launch} {x0 : Nat} {x1 : Int32} {x2 : Int32} {x3 : Int32} {w : mg_H} {sz : Nat} {o : Int32} (hf : fX0_digitsOf x0 x1 x2 x3 w = some o) : mg_C E l yX0_digitsOf cX0_digitsOf 4 (some .int) 1 23 [.ref x0, .int x1, .int x2, .int x3] w sz ((mg_oR mg_vI w) o) := by
  refine mg_meth (out := (mg_oR mg_vI w)) (by decide) (Nat.le_of_ble_eq_true rfl) hf ?_
  intro p e C S s m below meth c hC hin
  have hC : mg_Cx E p s m _ meth c cX0_digitsOf 4 (some .int) RX0 := hC
  unfold fX0_digitsOf
  refine mg_sub (pc := 0) [0, 1, 2, 3] (L' := [(0, .ref x0), (1, .int x1), (2, .int x2), (3, .int x3)]) rfl ?_
  refine mg_aload_n (pc := 0) hC 0 dX0_digitsOf_0 rfl ?_
  refine mg_iload_n (pc := 1) hC 1 dX0_digitsOf_1 rfl ?_
  refine mg_recv (ci := 0) (fun hb => ?_)
  refine mg_cRI (pc := 2) (fun r hr => mg_VR (rest := []) (av := [.int x1]) (ci := 0) hC wdX0_isMade mw_255 dX0_digitsOf_2 rfl rfl ⟨Nat.le_of_ble_eq_true rfl, Nat.le_of_ble_eq_true rfl⟩ (Nat.le_of_ble_eq_true rfl) hb (kX0_isMade hr)) (fun v1 _ => ?_)
  refine mg_if_ne (pc := 5) hC 10 dX0_digitsOf_5 (by decide) (fun _ => ?_) (fun _ => ?_)
  · refine mg_iconst (pc := 8) hC (0 : Int32) dX0_digitsOf_8 (by decide) ?_
    exact mg_iret (pc := 9) hC rfl dX0_digitsOf_9
  · refine mg_iload_n (pc := 10) hC 2 dX0_digitsOf_10 rfl ?_
    refine mg_if_ne (pc := 11) hC 24 dX0_digitsOf_11 (by decide) (fun _ => ?_) (fun _ => ?_)
    · refine mg_aload_n (pc := 14) hC 0 dX0_digitsOf_14 rfl ?_
      refine mg_getNN (pc := 15) (ci := 0) (k := 0) hC mi_0 rfl (by decide) mw_224 dX0_digitsOf_15 (fun v2 _ => ?_)
      refine mg_iload_n (pc := 18) hC 1 dX0_digitsOf_18 rfl ?_
      refine mg_iald (pc := 19) hC dX0_digitsOf_19 (fun v3 _ => ?_)
      refine mg_i2l (pc := 20) hC dX0_digitsOf_20 ?_
      refine mg_goto (pc := 21) hC 31 dX0_digitsOf_21 (by decide) ?_
      exact mg_sub (pc := 31) [3] (L' := [(3, .int x3)]) rfl (gX0_digitsOf_b31 hC _ _  _ _ _ _)
    · refine mg_aload_n (pc := 24) hC 0 dX0_digitsOf_24 rfl ?_
      refine mg_getNN (pc := 25) (ci := 0) (k := 1) hC mi_0 rfl (by decide) mw_225 dX0_digitsOf_25 (fun v4 _ => ?_)
      refine mg_iload_n (pc := 28) hC 1 dX0_digitsOf_28 rfl ?_
      refine mg_iald (pc := 29) hC dX0_digitsOf_29 (fun v5 _ => ?_)
      refine mg_i2l (pc := 30) hC dX0_digitsOf_30 ?_
      exact mg_sub (pc := 31) [3] (L' := [(3, .int x3)]) rfl (gX0_digitsOf_b31 hC _ _  _ _ _ _)
theorem wdX0_digitsOf : mg_WdV 0 yX0_digitsOf cX0_digitsOf 4 (some .int) 3 := ⟨⟨mw_254, mw_5, by decide, by decide, by decide +kernel⟩, _, rfl, mw_252, mw_253⟩
def fX0_holdsTurn (x0 : Nat) (x1 : Int32) (x2 : Nat) (w : mg_H) : Option (Int32) := (mg_gI w 2 x2 0).bind fun v1 => mg_rc w 0 x0 ((fX0_isMade x0 x1 w).bind fun v2 => if v2 = 0 then (some (0 : Int32)) else (mg_gN w 0 x0 0 fun v3 => (mg_ldI w 0 v3 x1).bind fun v4 => (mg_gI w 2 x2 1).bind fun v5 => if 0 < (lg_cmp ((v4.toInt64) * (v5.toInt64)) ((v1.toInt64) * (21082635 : Int64))) then (some (0 : Int32)) else (mg_gN w 0 x0 1 fun v6 => (mg_ldI w 0 v6 x1).bind fun v7 => (mg_gI w 2 x2 1).bind fun v8 => if 0 < (lg_cmp ((v1.toInt64) * (21082635 : Int64)) ((v7.toInt64) * (v8.toInt64))) then (some (0 : Int32)) else (some (1 : Int32)))))
set_option maxHeartbeats 4000000 in
set_option maxRecDepth 100000 in
theorem kX0_holdsTurn {E : mg_P} {l : Launch} {x0 : Nat} {x1 : Int32} {x2 : Nat} {w : mg_H} {sz : Nat} {o : Int32} (hf : fX0_holdsTurn x0 x1 x2 w = some o) : mg_C E l yX0_holdsTurn cX0_holdsTurn 5 (some .boolean) 1 21 [.ref x0, .int x1, .ref x2] w sz ((mg_oR mg_vI w) o) := by
  refine mg_meth (out := (mg_oR mg_vI w)) (by decide) (Nat.le_of_ble_eq_true rfl) hf ?_
  intro p e C S s m below meth c hC hin
  have hC : mg_Cx E p s m _ meth c cX0_holdsTurn 5 (some .boolean) RX0 := hC
  unfold fX0_holdsTurn
  refine mg_sub (pc := 0) [0, 1, 2] (L' := [(0, .ref x0), (1, .int x1), (2, .ref x2)]) rfl ?_
  refine mg_aload_n (pc := 0) hC 2 dX0_holdsTurn_0 rfl ?_
  refine mg_getI (pc := 1) (ci := 2) (k := 0) hC mi_2 rfl (by decide) mw_71 dX0_holdsTurn_1 (fun v1 _ => ?_)
  refine mg_i2l (pc := 4) hC dX0_holdsTurn_4 ?_
  refine mg_ldc2 (pc := 5) hC (21082635 : Int64) dX0_holdsTurn_5 mw_214 ?_
  refine mg_lmul (pc := 8) hC dX0_holdsTurn_8 ?_
  refine mg_lstore_n (pc := 9) hC [(3, .long ((v1.toInt64) * (21082635 : Int64))), (0, .ref x0), (1, .int x1), (2, .ref x2)] dX0_holdsTurn_9 (by decide) rfl ?_
  refine mg_aload_n (pc := 10) hC 1 dX0_holdsTurn_10 rfl ?_
  refine mg_iload_n (pc := 11) hC 2 dX0_holdsTurn_11 rfl ?_
  refine mg_recv (ci := 0) (fun hb => ?_)
  refine mg_cRI (pc := 12) (fun r hr => mg_VR (rest := []) (av := [.int x1]) (ci := 0) hC wdX0_isMade mw_255 dX0_holdsTurn_12 rfl rfl ⟨Nat.le_of_ble_eq_true rfl, Nat.le_of_ble_eq_true rfl⟩ (Nat.le_of_ble_eq_true rfl) hb (kX0_isMade hr)) (fun v2 _ => ?_)
  refine mg_if_eq (pc := 15) hC 58 dX0_holdsTurn_15 (by decide) (fun _ => ?_) (fun _ => ?_)
  · refine mg_iconst (pc := 58) hC (0 : Int32) dX0_holdsTurn_58 (by decide) ?_
    exact mg_zretC (pc := 59) hC (by decide) rfl dX0_holdsTurn_59
  · refine mg_aload_n (pc := 18) hC 1 dX0_holdsTurn_18 rfl ?_
    refine mg_getNN (pc := 19) (ci := 0) (k := 0) hC mi_0 rfl (by decide) mw_224 dX0_holdsTurn_19 (fun v3 _ => ?_)
    refine mg_iload_n (pc := 22) hC 2 dX0_holdsTurn_22 rfl ?_
    refine mg_iald (pc := 23) hC dX0_holdsTurn_23 (fun v4 _ => ?_)
    refine mg_i2l (pc := 24) hC dX0_holdsTurn_24 ?_
    refine mg_aload_n (pc := 25) hC 3 dX0_holdsTurn_25 rfl ?_
    refine mg_getI (pc := 26) (ci := 2) (k := 1) hC mi_2 rfl (by decide) mw_74 dX0_holdsTurn_26 (fun v5 _ => ?_)
    refine mg_i2l (pc := 29) hC dX0_holdsTurn_29 ?_
    refine mg_lmul (pc := 30) hC dX0_holdsTurn_30 ?_
    refine mg_lload_n (pc := 31) hC 0 dX0_holdsTurn_31 rfl ?_
    refine mg_lcmp (pc := 32) hC dX0_holdsTurn_32 ?_
    refine mg_if_gt (pc := 33) hC 58 dX0_holdsTurn_33 (by decide) (fun _ => ?_) (fun _ => ?_)
    · refine mg_iconst (pc := 58) hC (0 : Int32) dX0_holdsTurn_58 (by decide) ?_
      exact mg_zretC (pc := 59) hC (by decide) rfl dX0_holdsTurn_59
    · refine mg_lload_n (pc := 36) hC 0 dX0_holdsTurn_36 rfl ?_
      refine mg_aload_n (pc := 37) hC 1 dX0_holdsTurn_37 rfl ?_
      refine mg_getNN (pc := 38) (ci := 0) (k := 1) hC mi_0 rfl (by decide) mw_225 dX0_holdsTurn_38 (fun v6 _ => ?_)
      refine mg_iload_n (pc := 41) hC 2 dX0_holdsTurn_41 rfl ?_
      refine mg_iald (pc := 42) hC dX0_holdsTurn_42 (fun v7 _ => ?_)
      refine mg_i2l (pc := 43) hC dX0_holdsTurn_43 ?_
      refine mg_aload_n (pc := 44) hC 3 dX0_holdsTurn_44 rfl ?_
      refine mg_getI (pc := 45) (ci := 2) (k := 1) hC mi_2 rfl (by decide) mw_74 dX0_holdsTurn_45 (fun v8 _ => ?_)
      refine mg_i2l (pc := 48) hC dX0_holdsTurn_48 ?_
      refine mg_lmul (pc := 49) hC dX0_holdsTurn_49 ?_
      refine mg_lcmp (pc := 50) hC dX0_holdsTurn_50 ?_
      refine mg_if_gt (pc := 51) hC 58 dX0_holdsTurn_51 (by decide) (fun _ => ?_) (fun _ => ?_)
      · refine mg_iconst (pc := 58) hC (0 : Int32) dX0_holdsTurn_58 (by decide) ?_
        exact mg_zretC (pc := 59) hC (by decide) rfl dX0_holdsTurn_59
      · refine mg_iconst (pc := 54) hC (1 : Int32) dX0_holdsTurn_54 (by decide) ?_
        refine mg_goto (pc := 55) hC 59 dX0_holdsTurn_55 (by decide) ?_
        exact mg_zretC (pc := 59) hC (by decide) rfl dX0_holdsTurn_59
theorem wdX0_holdsTurn : mg_WdV 0 yX0_holdsTurn cX0_holdsTurn 5 (some .boolean) 2 := ⟨⟨mw_288, mw_5, by decide, by decide, by decide +kernel⟩, _, rfl, mw_286, mw_287⟩
def fX0_holdsPair (x0 : Nat) (x1 : Int32) (x2 : Int32) (w : mg_H) : Option (Int32) := mg_rc w 0 x0 ((fX0_isMade x0 x1 w).bind fun v1 => if v1 = 0 then (some (0 : Int32)) else (mg_rc w 0 x0 ((fX0_isMade x0 x2 w).bind fun v2 => if v2 = 0 then (some (0 : Int32)) else (mg_gN w 0 x0 0 fun v3 => (mg_ldI w 0 v3 x1).bind fun v4 => mg_gN w 0 x0 0 fun v5 => (mg_ldI w 0 v5 x2).bind fun v6 => if v6 < v4 then (some (0 : Int32)) else (mg_gN w 0 x0 1 fun v7 => (mg_ldI w 0 v7 x2).bind fun v8 => mg_gN w 0 x0 1 fun v9 => (mg_ldI w 0 v9 x1).bind fun v10 => if v10 < v8 then (some (0 : Int32)) else (some (1 : Int32)))))))
set_option maxHeartbeats 4000000 in
set_option maxRecDepth 100000 in
theorem kX0_holdsPair {E : mg_P} {l : Launch} {x0 : Nat} {x1 : Int32} {x2 : Int32} {w : mg_H} {sz : Nat} {o : Int32} (hf : fX0_holdsPair x0 x1 x2 w = some o) : mg_C E l yX0_holdsPair cX0_holdsPair 3 (some .boolean) 1 21 [.ref x0, .int x1, .int x2] w sz ((mg_oR mg_vI w) o) := by
  refine mg_meth (out := (mg_oR mg_vI w)) (by decide) (Nat.le_of_ble_eq_true rfl) hf ?_
  intro p e C S s m below meth c hC hin
  have hC : mg_Cx E p s m _ meth c cX0_holdsPair 3 (some .boolean) RX0 := hC
  unfold fX0_holdsPair
  refine mg_sub (pc := 0) [0, 1, 2] (L' := [(0, .ref x0), (1, .int x1), (2, .int x2)]) rfl ?_
  refine mg_aload_n (pc := 0) hC 0 dX0_holdsPair_0 rfl ?_
  refine mg_iload_n (pc := 1) hC 1 dX0_holdsPair_1 rfl ?_
  refine mg_recv (ci := 0) (fun hb => ?_)
  refine mg_cRI (pc := 2) (fun r hr => mg_VR (rest := []) (av := [.int x1]) (ci := 0) hC wdX0_isMade mw_255 dX0_holdsPair_2 rfl rfl ⟨Nat.le_of_ble_eq_true rfl, Nat.le_of_ble_eq_true rfl⟩ (Nat.le_of_ble_eq_true rfl) hb (kX0_isMade hr)) (fun v1 _ => ?_)
  refine mg_if_eq (pc := 5) hC 50 dX0_holdsPair_5 (by decide) (fun _ => ?_) (fun _ => ?_)
  · refine mg_iconst (pc := 50) hC (0 : Int32) dX0_holdsPair_50 (by decide) ?_
    exact mg_zretC (pc := 51) hC (by decide) rfl dX0_holdsPair_51
  · refine mg_aload_n (pc := 8) hC 0 dX0_holdsPair_8 rfl ?_
    refine mg_iload_n (pc := 9) hC 2 dX0_holdsPair_9 rfl ?_
    refine mg_recv (ci := 0) (fun hb => ?_)
    refine mg_cRI (pc := 10) (fun r hr => mg_VR (rest := []) (av := [.int x2]) (ci := 0) hC wdX0_isMade mw_255 dX0_holdsPair_10 rfl rfl ⟨Nat.le_of_ble_eq_true rfl, Nat.le_of_ble_eq_true rfl⟩ (Nat.le_of_ble_eq_true rfl) hb (kX0_isMade hr)) (fun v2 _ => ?_)
    refine mg_if_eq (pc := 13) hC 50 dX0_holdsPair_13 (by decide) (fun _ => ?_) (fun _ => ?_)
    · refine mg_iconst (pc := 50) hC (0 : Int32) dX0_holdsPair_50 (by decide) ?_
      exact mg_zretC (pc := 51) hC (by decide) rfl dX0_holdsPair_51
    · refine mg_aload_n (pc := 16) hC 0 dX0_holdsPair_16 rfl ?_
      refine mg_getNN (pc := 17) (ci := 0) (k := 0) hC mi_0 rfl (by decide) mw_224 dX0_holdsPair_17 (fun v3 _ => ?_)
      refine mg_iload_n (pc := 20) hC 1 dX0_holdsPair_20 rfl ?_
      refine mg_iald (pc := 21) hC dX0_holdsPair_21 (fun v4 _ => ?_)
      refine mg_aload_n (pc := 22) hC 0 dX0_holdsPair_22 rfl ?_
      refine mg_getNN (pc := 23) (ci := 0) (k := 0) hC mi_0 rfl (by decide) mw_224 dX0_holdsPair_23 (fun v5 _ => ?_)
      refine mg_iload_n (pc := 26) hC 2 dX0_holdsPair_26 rfl ?_
      refine mg_iald (pc := 27) hC dX0_holdsPair_27 (fun v6 _ => ?_)
      refine mg_icmp_gt (pc := 28) hC 50 dX0_holdsPair_28 (by decide) (fun _ => ?_) (fun _ => ?_)
      · refine mg_iconst (pc := 50) hC (0 : Int32) dX0_holdsPair_50 (by decide) ?_
        exact mg_zretC (pc := 51) hC (by decide) rfl dX0_holdsPair_51
      · refine mg_aload_n (pc := 31) hC 0 dX0_holdsPair_31 rfl ?_
        refine mg_getNN (pc := 32) (ci := 0) (k := 1) hC mi_0 rfl (by decide) mw_225 dX0_holdsPair_32 (fun v7 _ => ?_)
        refine mg_iload_n (pc := 35) hC 2 dX0_holdsPair_35 rfl ?_
        refine mg_iald (pc := 36) hC dX0_holdsPair_36 (fun v8 _ => ?_)
        refine mg_aload_n (pc := 37) hC 0 dX0_holdsPair_37 rfl ?_
        refine mg_getNN (pc := 38) (ci := 0) (k := 1) hC mi_0 rfl (by decide) mw_225 dX0_holdsPair_38 (fun v9 _ => ?_)
        refine mg_iload_n (pc := 41) hC 1 dX0_holdsPair_41 rfl ?_
        refine mg_iald (pc := 42) hC dX0_holdsPair_42 (fun v10 _ => ?_)
        refine mg_icmp_gt (pc := 43) hC 50 dX0_holdsPair_43 (by decide) (fun _ => ?_) (fun _ => ?_)
        · refine mg_iconst (pc := 50) hC (0 : Int32) dX0_holdsPair_50 (by decide) ?_
          exact mg_zretC (pc := 51) hC (by decide) rfl dX0_holdsPair_51
        · refine mg_iconst (pc := 46) hC (1 : Int32) dX0_holdsPair_46 (by decide) ?_
          refine mg_goto (pc := 47) hC 51 dX0_holdsPair_47 (by decide) ?_
          exact mg_zretC (pc := 51) hC (by decide) rfl dX0_holdsPair_51
theorem wdX0_holdsPair : mg_WdV 0 yX0_holdsPair cX0_holdsPair 3 (some .boolean) 2 := ⟨⟨mw_309, mw_5, by decide, by decide, by decide +kernel⟩, _, rfl, mw_307, mw_308⟩
def fX0_nextHolder_b84 (w : mg_H) (r26 : Nat → Nat → Int32 → Int32 → Int32 → Int32 → Option (Int32)) (x0 : Nat) (x1 : Nat) (x2 : Int32) (x4 : Int32) (x5 : Int32) (x6 : Int32) : Option (Int32) := r26 x0 x1 x2 x4 x5 (x6 + (1 : Int32))
set_option maxHeartbeats 4000000 in
set_option maxRecDepth 100000 in
theorem gX0_nextHolder_b84 (hC : mg_Cx E p s m args meth c cX0_nextHolder 7 (some .int) RX0) (w : mg_H) (sz : Nat) (r26 : Nat → Nat → Int32 → Int32 → Int32 → Int32 → Option (Int32)) (hr26 : ∀ (z0 : Nat) (z1 : Nat) (z2 : Int32) (z4 : Int32) (z5 : Int32) (z6 : Int32) (cells slots : Nat), mg_G E p l e ({ frames := 2, cells := C, slots := S, locals := 45 } : Room) s m args below meth c 7 (mg_oR mg_vI w) (r26 z0 z1 z2 z4 z5 z6) w sz cells slots 26 [(0, .ref z0), (1, .ref z1), (2, .int z2), (4, .int z4), (5, .int z5), (6, .int z6)] []) (x0 : Nat) (x1 : Nat) (x2 : Int32) (x4 : Int32) (x5 : Int32) (x6 : Int32) (cells slots : Nat) : mg_G E p l e ({ frames := 2, cells := C, slots := S, locals := 45 } : Room) s m args below meth c 7 (mg_oR mg_vI w) (fX0_nextHolder_b84 w r26 x0 x1 x2 x4 x5 x6) w sz cells slots 84 [(0, .ref x0), (1, .ref x1), (2, .int x2), (4, .int x4), (5, .int x5), (6, .int x6)] [] := by
  unfold fX0_nextHolder_b84
  refine mg_iinc (pc := 84) hC 5 (x6 + (1 : Int32)) [(6, .int (x6 + (1 : Int32))), (0, .ref x0), (1, .ref x1), (2, .int x2), (4, .int x4), (5, .int x5)] dX0_nextHolder_84 rfl rfl (by decide) rfl ?_
  refine mg_goto (pc := 87) hC 26 dX0_nextHolder_87 (by decide) ?_
  exact mg_sub (pc := 26) [1, 2, 3, 4, 5, 0] (L' := [(0, .ref x0), (1, .ref x1), (2, .int x2), (4, .int x4), (5, .int x5), (6, .int (x6 + (1 : Int32)))]) rfl (hr26 _ _ _ _ _ _ _ _)
def fX0_nextHolder_b80 (w : mg_H) (r26 : Nat → Nat → Int32 → Int32 → Int32 → Int32 → Option (Int32)) (x0 : Nat) (x1 : Nat) (x2 : Int32) (x4 : Int32) (x6 : Int32) : Option (Int32) := fX0_nextHolder_b84 w r26 x0 x1 x2 x4 x6 x6
set_option maxHeartbeats 4000000 in
set_option maxRecDepth 100000 in
theorem gX0_nextHolder_b80 (hC : mg_Cx E p s m args meth c cX0_nextHolder 7 (some .int) RX0) (w : mg_H) (sz : Nat) (r26 : Nat → Nat → Int32 → Int32 → Int32 → Int32 → Option (Int32)) (hr26 : ∀ (z0 : Nat) (z1 : Nat) (z2 : Int32) (z4 : Int32) (z5 : Int32) (z6 : Int32) (cells slots : Nat), mg_G E p l e ({ frames := 2, cells := C, slots := S, locals := 45 } : Room) s m args below meth c 7 (mg_oR mg_vI w) (r26 z0 z1 z2 z4 z5 z6) w sz cells slots 26 [(0, .ref z0), (1, .ref z1), (2, .int z2), (4, .int z4), (5, .int z5), (6, .int z6)] []) (x0 : Nat) (x1 : Nat) (x2 : Int32) (x4 : Int32) (x6 : Int32) (cells slots : Nat) : mg_G E p l e ({ frames := 2, cells := C, slots := S, locals := 45 } : Room) s m args below meth c 7 (mg_oR mg_vI w) (fX0_nextHolder_b80 w r26 x0 x1 x2 x4 x6) w sz cells slots 80 [(0, .ref x0), (1, .ref x1), (2, .int x2), (4, .int x4), (6, .int x6)] [] := by
  unfold fX0_nextHolder_b80
  refine mg_iload (pc := 80) hC 4 dX0_nextHolder_80 rfl ?_
  refine mg_istore (pc := 82) hC [(5, .int x6), (0, .ref x0), (1, .ref x1), (2, .int x2), (4, .int x4), (6, .int x6)] dX0_nextHolder_82 (by decide) rfl ?_
  exact mg_sub (pc := 84) [1, 2, 3, 4, 0, 5] (L' := [(0, .ref x0), (1, .ref x1), (2, .int x2), (4, .int x4), (5, .int x6), (6, .int x6)]) rfl (gX0_nextHolder_b84 hC _ _ _ hr26 _ _ _ _ _ _ _ _)
def fX0_nextHolder_b26 (w : mg_H) : Nat → Nat → Nat → Int32 → Int32 → Int32 → Int32 → Option (Int32)
  | 0, _, _, _, _, _, _ => none
  | n + 1, x0, x1, x2, x4, x5, x6 => mg_rc w 0 x0 ((fX0_amountUpTo x0 x2 w).bind fun v1 => if v1 ≤ x6 then (some x5) else (mg_rc w 0 x0 ((fX0_holdsTurn x0 x6 x1 w).bind fun v2 => if v2 = 0 then (fX0_nextHolder_b84 w (fX0_nextHolder_b26 w n) x0 x1 x2 x4 x5 x6) else (mg_gN w 0 x0 0 fun v3 => (mg_ldI w 0 v3 x6).bind fun v4 => if v4 ≤ x4 then (fX0_nextHolder_b84 w (fX0_nextHolder_b26 w n) x0 x1 x2 x4 x5 x6) else (if x5 < 0 then (fX0_nextHolder_b80 w (fX0_nextHolder_b26 w n) x0 x1 x2 x4 x6) else (mg_gN w 0 x0 0 fun v5 => (mg_ldI w 0 v5 x6).bind fun v6 => mg_gN w 0 x0 0 fun v7 => (mg_ldI w 0 v7 x5).bind fun v8 => if v8 ≤ v6 then (fX0_nextHolder_b84 w (fX0_nextHolder_b26 w n) x0 x1 x2 x4 x5 x6) else (fX0_nextHolder_b80 w (fX0_nextHolder_b26 w n) x0 x1 x2 x4 x6)))))))
set_option maxHeartbeats 4000000 in
set_option maxRecDepth 100000 in
theorem gX0_nextHolder_b26 (hC : mg_Cx E p s m args meth c cX0_nextHolder 7 (some .int) RX0) (w : mg_H) (sz : Nat) : ∀ (n : Nat) (x0 : Nat) (x1 : Nat) (x2 : Int32) (x4 : Int32) (x5 : Int32) (x6 : Int32) (cells slots : Nat), mg_G E p l e ({ frames := 2, cells := C, slots := S, locals := 45 } : Room) s m args below meth c 7 (mg_oR mg_vI w) (fX0_nextHolder_b26 w n x0 x1 x2 x4 x5 x6) w sz cells slots 26 [(0, .ref x0), (1, .ref x1), (2, .int x2), (4, .int x4), (5, .int x5), (6, .int x6)] [] := by
  intro n
  induction n with
  | zero => intros; exact fun o hf => by rw [fX0_nextHolder_b26] at hf; cases hf
  | succ n ih =>
    intro x0 x1 x2 x4 x5 x6 cells slots
    rw [fX0_nextHolder_b26]
    refine mg_iload (pc := 26) hC 5 dX0_nextHolder_26 rfl ?_
    refine mg_aload_n (pc := 28) hC 0 dX0_nextHolder_28 rfl ?_
    refine mg_iload_n (pc := 29) hC 2 dX0_nextHolder_29 rfl ?_
    refine mg_recv (ci := 0) (fun hb => ?_)
    refine mg_cRI (pc := 30) (fun r hr => mg_VR (rest := [.int x6]) (av := [.int x2]) (ci := 0) hC wdX0_amountUpTo mw_242 dX0_nextHolder_30 rfl rfl ⟨Nat.le_of_ble_eq_true rfl, Nat.le_of_ble_eq_true rfl⟩ (Nat.le_of_ble_eq_true rfl) hb (kX0_amountUpTo hr)) (fun v1 _ => ?_)
    refine mg_icmp_ge (pc := 33) hC 90 dX0_nextHolder_33 (by decide) (fun _ => ?_) (fun _ => ?_)
    · refine mg_iload (pc := 90) hC 4 dX0_nextHolder_90 rfl ?_
      exact mg_iret (pc := 92) hC rfl dX0_nextHolder_92
    · refine mg_aload_n (pc := 36) hC 0 dX0_nextHolder_36 rfl ?_
      refine mg_iload (pc := 37) hC 5 dX0_nextHolder_37 rfl ?_
      refine mg_aload_n (pc := 39) hC 1 dX0_nextHolder_39 rfl ?_
      refine mg_recv (ci := 0) (fun hb => ?_)
      refine mg_cRI (pc := 40) (fun r hr => mg_VR (rest := []) (av := [.int x6, .ref x1]) (ci := 0) hC wdX0_holdsTurn mw_297 dX0_nextHolder_40 rfl rfl ⟨Nat.le_of_ble_eq_true rfl, Nat.le_of_ble_eq_true rfl⟩ (Nat.le_of_ble_eq_true rfl) hb (kX0_holdsTurn hr)) (fun v2 _ => ?_)
      refine mg_if_eq (pc := 43) hC 84 dX0_nextHolder_43 (by decide) (fun _ => ?_) (fun _ => ?_)
      · exact mg_sub (pc := 84) [0, 1, 2, 3, 4, 5] (L' := [(0, .ref x0), (1, .ref x1), (2, .int x2), (4, .int x4), (5, .int x5), (6, .int x6)]) rfl (gX0_nextHolder_b84 hC _ _ _ ih _ _ _ _ _ _ _ _)
      · refine mg_aload_n (pc := 46) hC 0 dX0_nextHolder_46 rfl ?_
        refine mg_getNN (pc := 47) (ci := 0) (k := 0) hC mi_0 rfl (by decide) mw_224 dX0_nextHolder_47 (fun v3 _ => ?_)
        refine mg_iload (pc := 50) hC 5 dX0_nextHolder_50 rfl ?_
        refine mg_iald (pc := 52) hC dX0_nextHolder_52 (fun v4 _ => ?_)
        refine mg_iload (pc := 53) hC 3 dX0_nextHolder_53 rfl ?_
        refine mg_icmp_le (pc := 55) hC 84 dX0_nextHolder_55 (by decide) (fun _ => ?_) (fun _ => ?_)
        · exact mg_sub (pc := 84) [0, 1, 2, 3, 4, 5] (L' := [(0, .ref x0), (1, .ref x1), (2, .int x2), (4, .int x4), (5, .int x5), (6, .int x6)]) rfl (gX0_nextHolder_b84 hC _ _ _ ih _ _ _ _ _ _ _ _)
        · refine mg_iload (pc := 58) hC 4 dX0_nextHolder_58 rfl ?_
          refine mg_if_lt (pc := 60) hC 80 dX0_nextHolder_60 (by decide) (fun _ => ?_) (fun _ => ?_)
          · exact mg_sub (pc := 80) [0, 1, 2, 3, 5] (L' := [(0, .ref x0), (1, .ref x1), (2, .int x2), (4, .int x4), (6, .int x6)]) rfl (gX0_nextHolder_b80 hC _ _ _ ih _ _ _ _ _ _ _)
          · refine mg_aload_n (pc := 63) hC 0 dX0_nextHolder_63 rfl ?_
            refine mg_getNN (pc := 64) (ci := 0) (k := 0) hC mi_0 rfl (by decide) mw_224 dX0_nextHolder_64 (fun v5 _ => ?_)
            refine mg_iload (pc := 67) hC 5 dX0_nextHolder_67 rfl ?_
            refine mg_iald (pc := 69) hC dX0_nextHolder_69 (fun v6 _ => ?_)
            refine mg_aload_n (pc := 70) hC 0 dX0_nextHolder_70 rfl ?_
            refine mg_getNN (pc := 71) (ci := 0) (k := 0) hC mi_0 rfl (by decide) mw_224 dX0_nextHolder_71 (fun v7 _ => ?_)
            refine mg_iload (pc := 74) hC 4 dX0_nextHolder_74 rfl ?_
            refine mg_iald (pc := 76) hC dX0_nextHolder_76 (fun v8 _ => ?_)
            refine mg_icmp_ge (pc := 77) hC 84 dX0_nextHolder_77 (by decide) (fun _ => ?_) (fun _ => ?_)
            · exact mg_sub (pc := 84) [0, 1, 2, 3, 4, 5] (L' := [(0, .ref x0), (1, .ref x1), (2, .int x2), (4, .int x4), (5, .int x5), (6, .int x6)]) rfl (gX0_nextHolder_b84 hC _ _ _ ih _ _ _ _ _ _ _ _)
            · exact mg_sub (pc := 80) [0, 1, 2, 3, 5] (L' := [(0, .ref x0), (1, .ref x1), (2, .int x2), (4, .int x4), (6, .int x6)]) rfl (gX0_nextHolder_b80 hC _ _ _ ih _ _ _ _ _ _ _)
def fX0_nextHolder_b18 (w : mg_H) (x0 : Nat) (x1 : Nat) (x2 : Int32) (s0 : Int32) : Option (Int32) := fX0_nextHolder_b26 w mg_N x0 x1 x2 s0 (-1 : Int32) (0 : Int32)
set_option maxHeartbeats 4000000 in
set_option maxRecDepth 100000 in
theorem gX0_nextHolder_b18 (hC : mg_Cx E p s m args meth c cX0_nextHolder 7 (some .int) RX0) (w : mg_H) (sz : Nat) (x0 : Nat) (x1 : Nat) (x2 : Int32) (s0 : Int32) (cells slots : Nat) : mg_G E p l e ({ frames := 2, cells := C, slots := S, locals := 45 } : Room) s m args below meth c 7 (mg_oR mg_vI w) (fX0_nextHolder_b18 w x0 x1 x2 s0) w sz cells slots 18 [(0, .ref x0), (1, .ref x1), (2, .int x2)] [.int s0] := by
  unfold fX0_nextHolder_b18
  refine mg_istore (pc := 18) hC [(4, .int s0), (0, .ref x0), (1, .ref x1), (2, .int x2)] dX0_nextHolder_18 (by decide) rfl ?_
  refine mg_iconst (pc := 20) hC (-1 : Int32) dX0_nextHolder_20 (by decide) ?_
  refine mg_istore (pc := 21) hC [(5, .int (-1 : Int32)), (4, .int s0), (0, .ref x0), (1, .ref x1), (2, .int x2)] dX0_nextHolder_21 (by decide) rfl ?_
  refine mg_iconst (pc := 23) hC (0 : Int32) dX0_nextHolder_23 (by decide) ?_
  refine mg_istore (pc := 24) hC [(6, .int (0 : Int32)), (5, .int (-1 : Int32)), (4, .int s0), (0, .ref x0), (1, .ref x1), (2, .int x2)] dX0_nextHolder_24 (by decide) rfl ?_
  exact mg_sub (pc := 26) [3, 4, 5, 2, 1, 0] (L' := [(0, .ref x0), (1, .ref x1), (2, .int x2), (4, .int s0), (5, .int (-1 : Int32)), (6, .int (0 : Int32))]) rfl (gX0_nextHolder_b26 hC _ _  _ _ _ _ _ _ _ _ _)
def fX0_nextHolder (x0 : Nat) (x1 : Nat) (x2 : Int32) (x3 : Int32) (w : mg_H) : Option (Int32) := mg_rc w 0 x0 ((fX0_isMade x0 x3 w).bind fun v1 => if v1 = 0 then (fX0_nextHolder_b18 w x0 x1 x2 (-1 : Int32)) else (mg_gN w 0 x0 0 fun v2 => (mg_ldI w 0 v2 x3).bind fun v3 => fX0_nextHolder_b18 w x0 x1 x2 v3))
set_option maxHeartbeats 4000000 in
set_option maxRecDepth 100000 in
theorem kX0_nextHolder {E : mg_P} {l : Launch} {x0 : Nat} {x1 : Nat} {x2 : Int32} {x3 : Int32} {w : mg_H} {sz : Nat} {o : Int32} (hf : fX0_nextHolder x0 x1 x2 x3 w = some o) : mg_C E l yX0_nextHolder cX0_nextHolder 7 (some .int) 2 45 [.ref x0, .ref x1, .int x2, .int x3] w sz ((mg_oR mg_vI w) o) := by
  refine mg_meth (out := (mg_oR mg_vI w)) (by decide) (Nat.le_of_ble_eq_true rfl) hf ?_
  intro p e C S s m below meth c hC hin
  have hC : mg_Cx E p s m _ meth c cX0_nextHolder 7 (some .int) RX0 := hC
  unfold fX0_nextHolder
  refine mg_sub (pc := 0) [0, 1, 2, 3] (L' := [(0, .ref x0), (1, .ref x1), (2, .int x2), (3, .int x3)]) rfl ?_
  refine mg_aload_n (pc := 0) hC 0 dX0_nextHolder_0 rfl ?_
  refine mg_iload_n (pc := 1) hC 3 dX0_nextHolder_1 rfl ?_
  refine mg_recv (ci := 0) (fun hb => ?_)
  refine mg_cRI (pc := 2) (fun r hr => mg_VR (rest := []) (av := [.int x3]) (ci := 0) hC wdX0_isMade mw_255 dX0_nextHolder_2 rfl rfl ⟨Nat.le_of_ble_eq_true rfl, Nat.le_of_ble_eq_true rfl⟩ (Nat.le_of_ble_eq_true rfl) hb (kX0_isMade hr)) (fun v1 _ => ?_)
  refine mg_if_eq (pc := 5) hC 17 dX0_nextHolder_5 (by decide) (fun _ => ?_) (fun _ => ?_)
  · refine mg_iconst (pc := 17) hC (-1 : Int32) dX0_nextHolder_17 (by decide) ?_
    exact mg_sub (pc := 18) [0, 1, 2] (L' := [(0, .ref x0), (1, .ref x1), (2, .int x2)]) rfl (gX0_nextHolder_b18 hC _ _  _ _ _ _ _ _)
  · refine mg_aload_n (pc := 8) hC 0 dX0_nextHolder_8 rfl ?_
    refine mg_getNN (pc := 9) (ci := 0) (k := 0) hC mi_0 rfl (by decide) mw_224 dX0_nextHolder_9 (fun v2 _ => ?_)
    refine mg_iload_n (pc := 12) hC 3 dX0_nextHolder_12 rfl ?_
    refine mg_iald (pc := 13) hC dX0_nextHolder_13 (fun v3 _ => ?_)
    refine mg_goto (pc := 14) hC 18 dX0_nextHolder_14 (by decide) ?_
    exact mg_sub (pc := 18) [0, 1, 2] (L' := [(0, .ref x0), (1, .ref x1), (2, .int x2)]) rfl (gX0_nextHolder_b18 hC _ _  _ _ _ _ _ _)
theorem wdX0_nextHolder : mg_WdV 0 yX0_nextHolder cX0_nextHolder 7 (some .int) 3 := ⟨⟨mw_296, mw_5, by decide, by decide, by decide +kernel⟩, _, rfl, mw_294, mw_295⟩
def fX0_amountBetween_b51 (w : mg_H) (r6 : Nat → Int32 → Int32 → Int32 → Int32 → Int32 → Option (Int32)) (x0 : Nat) (x1 : Int32) (x2 : Int32) (x3 : Int32) (x4 : Int32) (x5 : Int32) : Option (Int32) := r6 x0 x1 x2 x3 x4 (x5 + (1 : Int32))
set_option maxHeartbeats 4000000 in
set_option maxRecDepth 100000 in
theorem gX0_amountBetween_b51 (hC : mg_Cx E p s m args meth c cX0_amountBetween 6 (some .int) RX0) (w : mg_H) (sz : Nat) (r6 : Nat → Int32 → Int32 → Int32 → Int32 → Int32 → Option (Int32)) (hr6 : ∀ (z0 : Nat) (z1 : Int32) (z2 : Int32) (z3 : Int32) (z4 : Int32) (z5 : Int32) (cells slots : Nat), mg_G E p l e ({ frames := 2, cells := C, slots := S, locals := 43 } : Room) s m args below meth c 6 (mg_oR mg_vI w) (r6 z0 z1 z2 z3 z4 z5) w sz cells slots 6 [(0, .ref z0), (1, .int z1), (2, .int z2), (3, .int z3), (4, .int z4), (5, .int z5)] []) (x0 : Nat) (x1 : Int32) (x2 : Int32) (x3 : Int32) (x4 : Int32) (x5 : Int32) (cells slots : Nat) : mg_G E p l e ({ frames := 2, cells := C, slots := S, locals := 43 } : Room) s m args below meth c 6 (mg_oR mg_vI w) (fX0_amountBetween_b51 w r6 x0 x1 x2 x3 x4 x5) w sz cells slots 51 [(0, .ref x0), (1, .int x1), (2, .int x2), (3, .int x3), (4, .int x4), (5, .int x5)] [] := by
  unfold fX0_amountBetween_b51
  refine mg_iinc (pc := 51) hC 5 (x5 + (1 : Int32)) [(5, .int (x5 + (1 : Int32))), (0, .ref x0), (1, .int x1), (2, .int x2), (3, .int x3), (4, .int x4)] dX0_amountBetween_51 rfl rfl (by decide) rfl ?_
  refine mg_goto (pc := 54) hC 6 dX0_amountBetween_54 (by decide) ?_
  exact mg_sub (pc := 6) [1, 2, 3, 4, 5, 0] (L' := [(0, .ref x0), (1, .int x1), (2, .int x2), (3, .int x3), (4, .int x4), (5, .int (x5 + (1 : Int32)))]) rfl (hr6 _ _ _ _ _ _ _ _)
def fX0_amountBetween_b6 (w : mg_H) : Nat → Nat → Int32 → Int32 → Int32 → Int32 → Int32 → Option (Int32)
  | 0, _, _, _, _, _, _ => none
  | n + 1, x0, x1, x2, x3, x4, x5 => mg_rc w 0 x0 ((fX0_amountUpTo x0 x3 w).bind fun v1 => if v1 ≤ x5 then (some x4) else (if x5 = x1 then (fX0_amountBetween_b51 w (fX0_amountBetween_b6 w n) x0 x1 x2 x3 x4 x5) else (if x5 = x2 then (fX0_amountBetween_b51 w (fX0_amountBetween_b6 w n) x0 x1 x2 x3 x4 x5) else (mg_rc w 0 x0 ((fX0_holdsPair x0 x1 x5 w).bind fun v2 => if v2 = 0 then (fX0_amountBetween_b51 w (fX0_amountBetween_b6 w n) x0 x1 x2 x3 x4 x5) else (mg_rc w 0 x0 ((fX0_holdsPair x0 x5 x2 w).bind fun v3 => if v3 = 0 then (fX0_amountBetween_b51 w (fX0_amountBetween_b6 w n) x0 x1 x2 x3 x4 x5) else (fX0_amountBetween_b51 w (fX0_amountBetween_b6 w n) x0 x1 x2 x3 (x4 + (1 : Int32)) x5))))))))
set_option maxHeartbeats 4000000 in
set_option maxRecDepth 100000 in
theorem gX0_amountBetween_b6 (hC : mg_Cx E p s m args meth c cX0_amountBetween 6 (some .int) RX0) (w : mg_H) (sz : Nat) : ∀ (n : Nat) (x0 : Nat) (x1 : Int32) (x2 : Int32) (x3 : Int32) (x4 : Int32) (x5 : Int32) (cells slots : Nat), mg_G E p l e ({ frames := 2, cells := C, slots := S, locals := 43 } : Room) s m args below meth c 6 (mg_oR mg_vI w) (fX0_amountBetween_b6 w n x0 x1 x2 x3 x4 x5) w sz cells slots 6 [(0, .ref x0), (1, .int x1), (2, .int x2), (3, .int x3), (4, .int x4), (5, .int x5)] [] := by
  intro n
  induction n with
  | zero => intros; exact fun o hf => by rw [fX0_amountBetween_b6] at hf; cases hf
  | succ n ih =>
    intro x0 x1 x2 x3 x4 x5 cells slots
    rw [fX0_amountBetween_b6]
    refine mg_iload (pc := 6) hC 5 dX0_amountBetween_6 rfl ?_
    refine mg_aload_n (pc := 8) hC 0 dX0_amountBetween_8 rfl ?_
    refine mg_iload_n (pc := 9) hC 3 dX0_amountBetween_9 rfl ?_
    refine mg_recv (ci := 0) (fun hb => ?_)
    refine mg_cRI (pc := 10) (fun r hr => mg_VR (rest := [.int x5]) (av := [.int x3]) (ci := 0) hC wdX0_amountUpTo mw_242 dX0_amountBetween_10 rfl rfl ⟨Nat.le_of_ble_eq_true rfl, Nat.le_of_ble_eq_true rfl⟩ (Nat.le_of_ble_eq_true rfl) hb (kX0_amountUpTo hr)) (fun v1 _ => ?_)
    refine mg_icmp_ge (pc := 13) hC 57 dX0_amountBetween_13 (by decide) (fun _ => ?_) (fun _ => ?_)
    · refine mg_iload (pc := 57) hC 4 dX0_amountBetween_57 rfl ?_
      exact mg_iret (pc := 59) hC rfl dX0_amountBetween_59
    · refine mg_iload (pc := 16) hC 5 dX0_amountBetween_16 rfl ?_
      refine mg_iload_n (pc := 18) hC 1 dX0_amountBetween_18 rfl ?_
      refine mg_icmp_eq (pc := 19) hC 51 dX0_amountBetween_19 (by decide) (fun _ => ?_) (fun _ => ?_)
      · exact mg_sub (pc := 51) [0, 1, 2, 3, 4, 5] (L' := [(0, .ref x0), (1, .int x1), (2, .int x2), (3, .int x3), (4, .int x4), (5, .int x5)]) rfl (gX0_amountBetween_b51 hC _ _ _ ih _ _ _ _ _ _ _ _)
      · refine mg_iload (pc := 22) hC 5 dX0_amountBetween_22 rfl ?_
        refine mg_iload_n (pc := 24) hC 2 dX0_amountBetween_24 rfl ?_
        refine mg_icmp_eq (pc := 25) hC 51 dX0_amountBetween_25 (by decide) (fun _ => ?_) (fun _ => ?_)
        · exact mg_sub (pc := 51) [0, 1, 2, 3, 4, 5] (L' := [(0, .ref x0), (1, .int x1), (2, .int x2), (3, .int x3), (4, .int x4), (5, .int x5)]) rfl (gX0_amountBetween_b51 hC _ _ _ ih _ _ _ _ _ _ _ _)
        · refine mg_aload_n (pc := 28) hC 0 dX0_amountBetween_28 rfl ?_
          refine mg_iload_n (pc := 29) hC 1 dX0_amountBetween_29 rfl ?_
          refine mg_iload (pc := 30) hC 5 dX0_amountBetween_30 rfl ?_
          refine mg_recv (ci := 0) (fun hb => ?_)
          refine mg_cRI (pc := 32) (fun r hr => mg_VR (rest := []) (av := [.int x1, .int x5]) (ci := 0) hC wdX0_holdsPair mw_318 dX0_amountBetween_32 rfl rfl ⟨Nat.le_of_ble_eq_true rfl, Nat.le_of_ble_eq_true rfl⟩ (Nat.le_of_ble_eq_true rfl) hb (kX0_holdsPair hr)) (fun v2 _ => ?_)
          refine mg_if_eq (pc := 35) hC 51 dX0_amountBetween_35 (by decide) (fun _ => ?_) (fun _ => ?_)
          · exact mg_sub (pc := 51) [0, 1, 2, 3, 4, 5] (L' := [(0, .ref x0), (1, .int x1), (2, .int x2), (3, .int x3), (4, .int x4), (5, .int x5)]) rfl (gX0_amountBetween_b51 hC _ _ _ ih _ _ _ _ _ _ _ _)
          · refine mg_aload_n (pc := 38) hC 0 dX0_amountBetween_38 rfl ?_
            refine mg_iload (pc := 39) hC 5 dX0_amountBetween_39 rfl ?_
            refine mg_iload_n (pc := 41) hC 2 dX0_amountBetween_41 rfl ?_
            refine mg_recv (ci := 0) (fun hb => ?_)
            refine mg_cRI (pc := 42) (fun r hr => mg_VR (rest := []) (av := [.int x5, .int x2]) (ci := 0) hC wdX0_holdsPair mw_318 dX0_amountBetween_42 rfl rfl ⟨Nat.le_of_ble_eq_true rfl, Nat.le_of_ble_eq_true rfl⟩ (Nat.le_of_ble_eq_true rfl) hb (kX0_holdsPair hr)) (fun v3 _ => ?_)
            refine mg_if_eq (pc := 45) hC 51 dX0_amountBetween_45 (by decide) (fun _ => ?_) (fun _ => ?_)
            · exact mg_sub (pc := 51) [0, 1, 2, 3, 4, 5] (L' := [(0, .ref x0), (1, .int x1), (2, .int x2), (3, .int x3), (4, .int x4), (5, .int x5)]) rfl (gX0_amountBetween_b51 hC _ _ _ ih _ _ _ _ _ _ _ _)
            · refine mg_iinc (pc := 48) hC 4 (x4 + (1 : Int32)) [(4, .int (x4 + (1 : Int32))), (0, .ref x0), (1, .int x1), (2, .int x2), (3, .int x3), (5, .int x5)] dX0_amountBetween_48 rfl rfl (by decide) rfl ?_
              exact mg_sub (pc := 51) [1, 2, 3, 4, 0, 5] (L' := [(0, .ref x0), (1, .int x1), (2, .int x2), (3, .int x3), (4, .int (x4 + (1 : Int32))), (5, .int x5)]) rfl (gX0_amountBetween_b51 hC _ _ _ ih _ _ _ _ _ _ _ _)
def fX0_amountBetween (x0 : Nat) (x1 : Int32) (x2 : Int32) (x3 : Int32) (w : mg_H) : Option (Int32) := fX0_amountBetween_b6 w mg_N x0 x1 x2 x3 (0 : Int32) (0 : Int32)
set_option maxHeartbeats 4000000 in
set_option maxRecDepth 100000 in
theorem kX0_amountBetween {E : mg_P} {l : Launch} {x0 : Nat} {x1 : Int32} {x2 : Int32} {x3 : Int32} {w : mg_H} {sz : Nat} {o : Int32} (hf : fX0_amountBetween x0 x1 x2 x3 w = some o) : mg_C E l yX0_amountBetween cX0_amountBetween 6 (some .int) 2 43 [.ref x0, .int x1, .int x2, .int x3] w sz ((mg_oR mg_vI w) o) := by
  refine mg_meth (out := (mg_oR mg_vI w)) (by decide) (Nat.le_of_ble_eq_true rfl) hf ?_
  intro p e C S s m below meth c hC hin
  have hC : mg_Cx E p s m _ meth c cX0_amountBetween 6 (some .int) RX0 := hC
  unfold fX0_amountBetween
  refine mg_sub (pc := 0) [0, 1, 2, 3] (L' := [(0, .ref x0), (1, .int x1), (2, .int x2), (3, .int x3)]) rfl ?_
  refine mg_iconst (pc := 0) hC (0 : Int32) dX0_amountBetween_0 (by decide) ?_
  refine mg_istore (pc := 1) hC [(4, .int (0 : Int32)), (0, .ref x0), (1, .int x1), (2, .int x2), (3, .int x3)] dX0_amountBetween_1 (by decide) rfl ?_
  refine mg_iconst (pc := 3) hC (0 : Int32) dX0_amountBetween_3 (by decide) ?_
  refine mg_istore (pc := 4) hC [(5, .int (0 : Int32)), (4, .int (0 : Int32)), (0, .ref x0), (1, .int x1), (2, .int x2), (3, .int x3)] dX0_amountBetween_4 (by decide) rfl ?_
  exact mg_sub (pc := 6) [2, 3, 4, 5, 1, 0] (L' := [(0, .ref x0), (1, .int x1), (2, .int x2), (3, .int x3), (4, .int (0 : Int32)), (5, .int (0 : Int32))]) rfl (gX0_amountBetween_b6 hC _ _  _ _ _ _ _ _ _ _ _)
theorem wdX0_amountBetween : mg_WdV 0 yX0_amountBetween cX0_amountBetween 6 (some .int) 3 := ⟨⟨mw_317, mw_5, by decide, by decide, by decide +kernel⟩, _, rfl, mw_315, mw_316⟩
def fX0_amountInside (x0 : Nat) (x1 : Int32) (x2 : Int32) (w : mg_H) : Option (Int32) := mg_rc w 0 x0 ((fX0_isMade x0 x1 w).bind fun v1 => if v1 = 0 then (some (0 : Int32)) else (mg_gN w 0 x0 1 fun v2 => (mg_ldI w 0 v2 x1).bind fun v3 => (fX3_over ((v3.toInt64) * (x2.toInt64)) (21082635 : Int64)).bind fun v4 => mg_gN w 0 x0 0 fun v5 => (mg_ldI w 0 v5 x1).bind fun v6 => (fX3_over ((((v6.toInt64) * (x2.toInt64)) + (21082635 : Int64)) - (1 : Int64)) (21082635 : Int64)).bind fun v7 => some (((v4 - v7) + (1 : Int64)).toInt32)))
set_option maxHeartbeats 4000000 in
set_option maxRecDepth 100000 in
theorem kX0_amountInside {E : mg_P} {l : Launch} {x0 : Nat} {x1 : Int32} {x2 : Int32} {w : mg_H} {sz : Nat} {o : Int32} (hf : fX0_amountInside x0 x1 x2 w = some o) : mg_C E l yX0_amountInside cX0_amountInside 7 (some .int) 1 23 [.ref x0, .int x1, .int x2] w sz ((mg_oR mg_vI w) o) := by
  refine mg_meth (out := (mg_oR mg_vI w)) (by decide) (Nat.le_of_ble_eq_true rfl) hf ?_
  intro p e C S s m below meth c hC hin
  have hC : mg_Cx E p s m _ meth c cX0_amountInside 7 (some .int) RX0 := hC
  unfold fX0_amountInside
  refine mg_sub (pc := 0) [0, 1, 2] (L' := [(0, .ref x0), (1, .int x1), (2, .int x2)]) rfl ?_
  refine mg_aload_n (pc := 0) hC 0 dX0_amountInside_0 rfl ?_
  refine mg_iload_n (pc := 1) hC 1 dX0_amountInside_1 rfl ?_
  refine mg_recv (ci := 0) (fun hb => ?_)
  refine mg_cRI (pc := 2) (fun r hr => mg_VR (rest := []) (av := [.int x1]) (ci := 0) hC wdX0_isMade mw_255 dX0_amountInside_2 rfl rfl ⟨Nat.le_of_ble_eq_true rfl, Nat.le_of_ble_eq_true rfl⟩ (Nat.le_of_ble_eq_true rfl) hb (kX0_isMade hr)) (fun v1 _ => ?_)
  refine mg_if_ne (pc := 5) hC 10 dX0_amountInside_5 (by decide) (fun _ => ?_) (fun _ => ?_)
  · refine mg_iconst (pc := 8) hC (0 : Int32) dX0_amountInside_8 (by decide) ?_
    exact mg_iret (pc := 9) hC rfl dX0_amountInside_9
  · refine mg_aload_n (pc := 10) hC 0 dX0_amountInside_10 rfl ?_
    refine mg_getNN (pc := 11) (ci := 0) (k := 1) hC mi_0 rfl (by decide) mw_225 dX0_amountInside_11 (fun v2 _ => ?_)
    refine mg_iload_n (pc := 14) hC 1 dX0_amountInside_14 rfl ?_
    refine mg_iald (pc := 15) hC dX0_amountInside_15 (fun v3 _ => ?_)
    refine mg_i2l (pc := 16) hC dX0_amountInside_16 ?_
    refine mg_iload_n (pc := 17) hC 2 dX0_amountInside_17 rfl ?_
    refine mg_i2l (pc := 18) hC dX0_amountInside_18 ?_
    refine mg_lmul (pc := 19) hC dX0_amountInside_19 ?_
    refine mg_ldc2 (pc := 20) hC (21082635 : Int64) dX0_amountInside_20 mw_214 ?_
    refine mg_cRL (pc := 23) (fun r hr => mg_SN (rest := []) hC wdX3_over mw_54 (List.mem_of_getElem? (i := 6) rfl) dX0_amountInside_23 rfl rfl ⟨Nat.le_of_ble_eq_true rfl, Nat.le_of_ble_eq_true rfl⟩ (Nat.le_of_ble_eq_true rfl) (kX3_over hr)) (fun v4 _ => ?_)
    refine mg_lstore_n (pc := 26) hC [(3, .long v4), (0, .ref x0), (1, .int x1), (2, .int x2)] dX0_amountInside_26 (by decide) rfl ?_
    refine mg_aload_n (pc := 27) hC 1 dX0_amountInside_27 rfl ?_
    refine mg_getNN (pc := 28) (ci := 0) (k := 0) hC mi_0 rfl (by decide) mw_224 dX0_amountInside_28 (fun v5 _ => ?_)
    refine mg_iload_n (pc := 31) hC 2 dX0_amountInside_31 rfl ?_
    refine mg_iald (pc := 32) hC dX0_amountInside_32 (fun v6 _ => ?_)
    refine mg_i2l (pc := 33) hC dX0_amountInside_33 ?_
    refine mg_iload_n (pc := 34) hC 3 dX0_amountInside_34 rfl ?_
    refine mg_i2l (pc := 35) hC dX0_amountInside_35 ?_
    refine mg_lmul (pc := 36) hC dX0_amountInside_36 ?_
    refine mg_ldc2 (pc := 37) hC (21082635 : Int64) dX0_amountInside_37 mw_214 ?_
    refine mg_ladd (pc := 40) hC dX0_amountInside_40 ?_
    refine mg_lconst (pc := 41) hC (1 : Int64) dX0_amountInside_41 (by decide) ?_
    refine mg_lsub (pc := 42) hC dX0_amountInside_42 ?_
    refine mg_ldc2 (pc := 43) hC (21082635 : Int64) dX0_amountInside_43 mw_214 ?_
    refine mg_cRL (pc := 46) (fun r hr => mg_SN (rest := []) hC wdX3_over mw_54 (List.mem_of_getElem? (i := 6) rfl) dX0_amountInside_46 rfl rfl ⟨Nat.le_of_ble_eq_true rfl, Nat.le_of_ble_eq_true rfl⟩ (Nat.le_of_ble_eq_true rfl) (kX3_over hr)) (fun v7 _ => ?_)
    refine mg_lstore (pc := 49) hC [(5, .long v7), (3, .long v4), (0, .ref x0), (1, .int x1), (2, .int x2)] dX0_amountInside_49 (by decide) rfl ?_
    refine mg_lload_n (pc := 51) hC 1 dX0_amountInside_51 rfl ?_
    refine mg_lload (pc := 52) hC 0 dX0_amountInside_52 rfl ?_
    refine mg_lsub (pc := 54) hC dX0_amountInside_54 ?_
    refine mg_lconst (pc := 55) hC (1 : Int64) dX0_amountInside_55 (by decide) ?_
    refine mg_ladd (pc := 56) hC dX0_amountInside_56 ?_
    refine mg_l2i (pc := 57) hC dX0_amountInside_57 ?_
    exact mg_iret (pc := 58) hC rfl dX0_amountInside_58
theorem wdX0_amountInside : mg_WdV 0 yX0_amountInside cX0_amountInside 7 (some .int) 2 := ⟨⟨mw_326, mw_5, by decide, by decide, by decide +kernel⟩, _, rfl, mw_324, mw_325⟩
def fX1_init (x0 : Nat) (x1 : Int32) (x2 : Int32) (w : mg_H) (sz : Nat) : Option (Unit × mg_H × Nat × Nat) := (mg_pI w 1 x0 0 x1).bind fun w1 => mg_naL w1 sz (if x2 < (0 : Int32) then (0 : Int32) else x2) fun w2 => (mg_pQ w2 1 x0 1 (some sz)).bind fun w3 => some ((), w3, 0, 0)
set_option maxHeartbeats 4000000 in
set_option maxRecDepth 100000 in
theorem kX1_init {E : mg_P} {l : Launch} {x0 : Nat} {x1 : Int32} {x2 : Int32} {w : mg_H} {sz : Nat} {o : Unit × mg_H × Nat × Nat} (hf : fX1_init x0 x1 x2 w sz = some o) : mg_C E l yX1_init cX1_init 3 none 1 21 [.ref x0, .int x1, .int x2] w sz ((mg_oA mg_vV) o) := by
  refine mg_meth (out := (mg_oA mg_vV)) (by decide) (Nat.le_of_ble_eq_true rfl) hf ?_
  intro p e C S s m below meth c hC hin
  have hC : mg_Cx E p s m _ meth c cX1_init 3 none RX1 := hC
  have hin : meth.name = "<init>" := hin
  unfold fX1_init
  refine mg_sub (pc := 0) [0, 1, 2] (L' := [(0, .ref x0), (1, .int x1), (2, .int x2)]) rfl ?_
  refine mg_aload_n (pc := 0) hC 0 dX1_init_0 rfl ?_
  refine mg_objInit (pc := 1) hC mw_363 mw_13 mw_14 (Nat.le_of_ble_eq_true rfl) (Nat.le_of_ble_eq_true rfl) dX1_init_1 ?_
  refine mg_aload_n (pc := 4) hC 0 dX1_init_4 rfl ?_
  refine mg_iload_n (pc := 5) hC 1 dX1_init_5 rfl ?_
  refine mg_putI (pc := 6) (ci := 1) (k := 0) hC mi_1 rfl (by decide) tyX1 tyX1_ok nmX1 mw_365 dX1_init_6 (Or.inr ⟨rfl, hin, rfl⟩) rfl (fun w1 _ => ?_)
  refine mg_aload_n (pc := 9) hC 0 dX1_init_9 rfl ?_
  refine mg_iload_n (pc := 10) hC 2 dX1_init_10 rfl ?_
  refine mg_iconst (pc := 11) hC (0 : Int32) dX1_init_11 (by decide) ?_
  refine mg_mmax (pc := 12) hC dX1_init_12 mw_364 mw_172 mw_4 mw_173 (Nat.le_of_ble_eq_true rfl) (Nat.le_of_ble_eq_true rfl) ?_
  refine mg_newaL (pc := 15) hC mw_374 dX1_init_15 ?_
  refine mg_putQ (pc := 17) (ci := 1) (k := 1) (v := (some sz)) hC mi_1 rfl (by decide) tyX1 tyX1_ok nmX1 mw_367 dX1_init_17 (Or.inr ⟨rfl, hin, rfl⟩) mg_rfA mg_ftA (fun w3 _ => ?_)
  exact mg_vret (pc := 20) hC rfl dX1_init_20
theorem wdX1_init : mg_Wd yX1_init cX1_init 3 none 2 := ⟨mw_362, mw_6, by decide, by decide, by decide +kernel⟩
def fX1_hasCell (x0 : Nat) (x1 : Int64) (w : mg_H) : Option (Int32) := if (lg_cmp x1 (0 : Int64)) < 0 then (some (0 : Int32)) else (mg_gN w 1 x0 1 fun v1 => (mg_len w v1).bind fun v2 => if 0 ≤ (lg_cmp x1 (v2.toInt64)) then (some (0 : Int32)) else (some (1 : Int32)))
set_option maxHeartbeats 4000000 in
set_option maxRecDepth 100000 in
theorem kX1_hasCell {E : mg_P} {l : Launch} {x0 : Nat} {x1 : Int64} {w : mg_H} {sz : Nat} {o : Int32} (hf : fX1_hasCell x0 x1 w = some o) : mg_C E l yX1_hasCell cX1_hasCell 3 (some .boolean) 0 0 [.ref x0, .long x1] w sz ((mg_oR mg_vI w) o) := by
  refine mg_meth (out := (mg_oR mg_vI w)) (by decide) (Nat.le_of_ble_eq_true rfl) hf ?_
  intro p e C S s m below meth c hC hin
  have hC : mg_Cx E p s m _ meth c cX1_hasCell 3 (some .boolean) RX1 := hC
  unfold fX1_hasCell
  refine mg_sub (pc := 0) [0, 1] (L' := [(0, .ref x0), (1, .long x1)]) rfl ?_
  refine mg_lload_n (pc := 0) hC 1 dX1_hasCell_0 rfl ?_
  refine mg_lconst (pc := 1) hC (0 : Int64) dX1_hasCell_1 (by decide) ?_
  refine mg_lcmp (pc := 2) hC dX1_hasCell_2 ?_
  refine mg_if_lt (pc := 3) hC 21 dX1_hasCell_3 (by decide) (fun _ => ?_) (fun _ => ?_)
  · refine mg_iconst (pc := 21) hC (0 : Int32) dX1_hasCell_21 (by decide) ?_
    exact mg_zretC (pc := 22) hC (by decide) rfl dX1_hasCell_22
  · refine mg_lload_n (pc := 6) hC 1 dX1_hasCell_6 rfl ?_
    refine mg_aload_n (pc := 7) hC 0 dX1_hasCell_7 rfl ?_
    refine mg_getNN (pc := 8) (ci := 1) (k := 1) hC mi_1 rfl (by decide) mw_367 dX1_hasCell_8 (fun v1 _ => ?_)
    refine mg_alen (pc := 11) hC dX1_hasCell_11 (fun v2 _ => ?_)
    refine mg_i2l (pc := 12) hC dX1_hasCell_12 ?_
    refine mg_lcmp (pc := 13) hC dX1_hasCell_13 ?_
    refine mg_if_ge (pc := 14) hC 21 dX1_hasCell_14 (by decide) (fun _ => ?_) (fun _ => ?_)
    · refine mg_iconst (pc := 21) hC (0 : Int32) dX1_hasCell_21 (by decide) ?_
      exact mg_zretC (pc := 22) hC (by decide) rfl dX1_hasCell_22
    · refine mg_iconst (pc := 17) hC (1 : Int32) dX1_hasCell_17 (by decide) ?_
      refine mg_goto (pc := 18) hC 22 dX1_hasCell_18 (by decide) ?_
      exact mg_zretC (pc := 22) hC (by decide) rfl dX1_hasCell_22
theorem wdX1_hasCell : mg_WdV 1 yX1_hasCell cX1_hasCell 3 (some .boolean) 1 := ⟨⟨mw_382, mw_6, by decide, by decide, by decide +kernel⟩, _, rfl, mw_380, mw_381⟩
def fX3_greatestShared_b9 : Nat → Int64 → Int64 → Int32 → Option (Int64)
  | 0, _, _, _ => none
  | n + 1, x4, x6, x8 => if (128 : Int32) ≤ x8 then (some x4) else (if (lg_cmp x6 (0 : Int64)) = 0 then (some x4) else (if x6 = 0 then none else (fX3_greatestShared_b9 n x6 (x4 - x4 / x6 * x6) (x8 + (1 : Int32)))))
set_option maxHeartbeats 4000000 in
set_option maxRecDepth 100000 in
theorem gX3_greatestShared_b9 (hC : mg_Cx E p s m args meth c cX3_greatestShared 11 (some .long) RX3) (w : mg_H) (sz : Nat) : ∀ (n : Nat) (x4 : Int64) (x6 : Int64) (x8 : Int32) (cells slots : Nat), mg_G E p l e ({ frames := 0, cells := C, slots := S, locals := 0 } : Room) s m args below meth c 11 (mg_oR mg_vL w) (fX3_greatestShared_b9 n x4 x6 x8) w sz cells slots 9 [(4, .long x4), (6, .long x6), (8, .int x8)] [] := by
  intro n
  induction n with
  | zero => intros; exact fun o hf => by rw [fX3_greatestShared_b9] at hf; cases hf
  | succ n ih =>
    intro x4 x6 x8 cells slots
    rw [fX3_greatestShared_b9]
    refine mg_iload (pc := 9) hC 2 dX3_greatestShared_9 rfl ?_
    refine mg_sipush (pc := 11) hC (128 : Int32) dX3_greatestShared_11 (by decide) ?_
    refine mg_icmp_ge (pc := 14) hC 45 dX3_greatestShared_14 (by decide) (fun _ => ?_) (fun _ => ?_)
    · refine mg_lload (pc := 45) hC 0 dX3_greatestShared_45 rfl ?_
      exact mg_lret (pc := 47) hC rfl dX3_greatestShared_47
    · refine mg_lload (pc := 17) hC 1 dX3_greatestShared_17 rfl ?_
      refine mg_lconst (pc := 19) hC (0 : Int64) dX3_greatestShared_19 (by decide) ?_
      refine mg_lcmp (pc := 20) hC dX3_greatestShared_20 ?_
      refine mg_if_eq (pc := 21) hC 45 dX3_greatestShared_21 (by decide) (fun _ => ?_) (fun _ => ?_)
      · refine mg_lload (pc := 45) hC 0 dX3_greatestShared_45 rfl ?_
        exact mg_lret (pc := 47) hC rfl dX3_greatestShared_47
      · refine mg_lload (pc := 24) hC 0 dX3_greatestShared_24 rfl ?_
        refine mg_lload (pc := 26) hC 1 dX3_greatestShared_26 rfl ?_
        refine mg_lrem (pc := 28) hC dX3_greatestShared_28 ?_
        refine mg_lstore (pc := 29) hC [(9, .long (x4 - x4 / x6 * x6)), (4, .long x4), (6, .long x6), (8, .int x8)] dX3_greatestShared_29 (by decide) rfl ?_
        refine mg_lload (pc := 31) hC 2 dX3_greatestShared_31 rfl ?_
        refine mg_lstore (pc := 33) hC [(4, .long x6), (9, .long (x4 - x4 / x6 * x6)), (6, .long x6), (8, .int x8)] dX3_greatestShared_33 (by decide) rfl ?_
        refine mg_lload (pc := 35) hC 1 dX3_greatestShared_35 rfl ?_
        refine mg_lstore (pc := 37) hC [(6, .long (x4 - x4 / x6 * x6)), (4, .long x6), (9, .long (x4 - x4 / x6 * x6)), (8, .int x8)] dX3_greatestShared_37 (by decide) rfl ?_
        refine mg_iinc (pc := 39) hC 3 (x8 + (1 : Int32)) [(8, .int (x8 + (1 : Int32))), (6, .long (x4 - x4 / x6 * x6)), (4, .long x6), (9, .long (x4 - x4 / x6 * x6))] dX3_greatestShared_39 rfl rfl (by decide) rfl ?_
        refine mg_goto (pc := 42) hC 9 dX3_greatestShared_42 (by decide) ?_
        exact mg_sub (pc := 9) [2, 1, 0] (L' := [(4, .long x6), (6, .long (x4 - x4 / x6 * x6)), (8, .int (x8 + (1 : Int32)))]) rfl (ih _ _ _ _ _)
def fX3_greatestShared (x0 : Int64) (x2 : Int64) : Option (Int64) := fX3_greatestShared_b9 mg_N x0 x2 (0 : Int32)
set_option maxHeartbeats 4000000 in
set_option maxRecDepth 100000 in
theorem kX3_greatestShared {E : mg_P} {l : Launch} {x0 : Int64} {x2 : Int64} {w : mg_H} {sz : Nat} {o : Int64} (hf : fX3_greatestShared x0 x2 = some o) : mg_C E l yX3_greatestShared cX3_greatestShared 11 (some .long) 0 0 [.long x0, .long x2] w sz ((mg_oR mg_vL w) o) := by
  refine mg_meth (out := (mg_oR mg_vL w)) (by decide) (Nat.le_of_ble_eq_true rfl) hf ?_
  intro p e C S s m below meth c hC hin
  have hC : mg_Cx E p s m _ meth c cX3_greatestShared 11 (some .long) RX3 := hC
  unfold fX3_greatestShared
  refine mg_sub (pc := 0) [0, 1] (L' := [(0, .long x0), (2, .long x2)]) rfl ?_
  refine mg_lload_n (pc := 0) hC 0 dX3_greatestShared_0 rfl ?_
  refine mg_lstore (pc := 1) hC [(4, .long x0), (0, .long x0), (2, .long x2)] dX3_greatestShared_1 (by decide) rfl ?_
  refine mg_lload_n (pc := 3) hC 2 dX3_greatestShared_3 rfl ?_
  refine mg_lstore (pc := 4) hC [(6, .long x2), (4, .long x0), (0, .long x0), (2, .long x2)] dX3_greatestShared_4 (by decide) rfl ?_
  refine mg_iconst (pc := 6) hC (0 : Int32) dX3_greatestShared_6 (by decide) ?_
  refine mg_istore (pc := 7) hC [(8, .int (0 : Int32)), (6, .long x2), (4, .long x0), (0, .long x0), (2, .long x2)] dX3_greatestShared_7 (by decide) rfl ?_
  exact mg_sub (pc := 9) [2, 1, 0] (L' := [(4, .long x0), (6, .long x2), (8, .int (0 : Int32))]) rfl (gX3_greatestShared_b9 hC _ _  _ _ _ _ _ _)
theorem wdX3_greatestShared : mg_Wd yX3_greatestShared cX3_greatestShared 11 (some .long) 2 := ⟨mw_52, mw_1, by decide, by decide, by decide +kernel⟩
def fX2_twosIn_b2 : Nat → Int32 → Int32 → Option (Int32)
  | 0, _, _ => none
  | n + 1, x0, x1 => if (30 : Int32) ≤ x1 then (some x1) else (if ((x0 >>> (x1 &&& 31)) &&& (1 : Int32)) = 0 then (fX2_twosIn_b2 n x0 (x1 + (1 : Int32))) else (some x1))
set_option maxHeartbeats 4000000 in
set_option maxRecDepth 100000 in
theorem gX2_twosIn_b2 (hC : mg_Cx E p s m args meth c cX2_twosIn 2 (some .int) RX2) (w : mg_H) (sz : Nat) : ∀ (n : Nat) (x0 : Int32) (x1 : Int32) (cells slots : Nat), mg_G E p l e ({ frames := 0, cells := C, slots := S, locals := 0 } : Room) s m args below meth c 2 (mg_oR mg_vI w) (fX2_twosIn_b2 n x0 x1) w sz cells slots 2 [(0, .int x0), (1, .int x1)] [] := by
  intro n
  induction n with
  | zero => intros; exact fun o hf => by rw [fX2_twosIn_b2] at hf; cases hf
  | succ n ih =>
    intro x0 x1 cells slots
    rw [fX2_twosIn_b2]
    refine mg_iload_n (pc := 2) hC 1 dX2_twosIn_2 rfl ?_
    refine mg_bipush (pc := 3) hC (30 : Int32) dX2_twosIn_3 (by decide) ?_
    refine mg_icmp_ge (pc := 5) hC 22 dX2_twosIn_5 (by decide) (fun _ => ?_) (fun _ => ?_)
    · refine mg_iload_n (pc := 22) hC 1 dX2_twosIn_22 rfl ?_
      exact mg_iret (pc := 23) hC rfl dX2_twosIn_23
    · refine mg_iload_n (pc := 8) hC 0 dX2_twosIn_8 rfl ?_
      refine mg_iload_n (pc := 9) hC 1 dX2_twosIn_9 rfl ?_
      refine mg_ishr (pc := 10) hC dX2_twosIn_10 ?_
      refine mg_iconst (pc := 11) hC (1 : Int32) dX2_twosIn_11 (by decide) ?_
      refine mg_iand (pc := 12) hC dX2_twosIn_12 ?_
      refine mg_if_ne (pc := 13) hC 22 dX2_twosIn_13 (by decide) (fun _ => ?_) (fun _ => ?_)
      · refine mg_iinc (pc := 16) hC 1 (x1 + (1 : Int32)) [(1, .int (x1 + (1 : Int32))), (0, .int x0)] dX2_twosIn_16 rfl rfl (by decide) rfl ?_
        refine mg_goto (pc := 19) hC 2 dX2_twosIn_19 (by decide) ?_
        exact mg_sub (pc := 2) [1, 0] (L' := [(0, .int x0), (1, .int (x1 + (1 : Int32)))]) rfl (ih _ _ _ _)
      · refine mg_iload_n (pc := 22) hC 1 dX2_twosIn_22 rfl ?_
        exact mg_iret (pc := 23) hC rfl dX2_twosIn_23
def fX2_twosIn (x0 : Int32) : Option (Int32) := fX2_twosIn_b2 mg_N x0 (0 : Int32)
set_option maxHeartbeats 4000000 in
set_option maxRecDepth 100000 in
theorem kX2_twosIn {E : mg_P} {l : Launch} {x0 : Int32} {w : mg_H} {sz : Nat} {o : Int32} (hf : fX2_twosIn x0 = some o) : mg_C E l yX2_twosIn cX2_twosIn 2 (some .int) 0 0 [.int x0] w sz ((mg_oR mg_vI w) o) := by
  refine mg_meth (out := (mg_oR mg_vI w)) (by decide) (Nat.le_of_ble_eq_true rfl) hf ?_
  intro p e C S s m below meth c hC hin
  have hC : mg_Cx E p s m _ meth c cX2_twosIn 2 (some .int) RX2 := hC
  unfold fX2_twosIn
  refine mg_sub (pc := 0) [0] (L' := [(0, .int x0)]) rfl ?_
  refine mg_iconst (pc := 0) hC (0 : Int32) dX2_twosIn_0 (by decide) ?_
  refine mg_istore_n (pc := 1) hC [(1, .int (0 : Int32)), (0, .int x0)] dX2_twosIn_1 (by decide) rfl ?_
  exact mg_sub (pc := 2) [1, 0] (L' := [(0, .int x0), (1, .int (0 : Int32))]) rfl (gX2_twosIn_b2 hC _ _  _ _ _ _ _)
theorem wdX2_twosIn : mg_Wd yX2_twosIn cX2_twosIn 2 (some .int) 1 := ⟨mw_58, mw_3, by decide, by decide, by decide +kernel⟩
def fX2_upAfter_b7 (w : mg_H) : Nat → Nat → Int32 → Int32 → Int32 → Option (Int32)
  | 0, _, _, _, _ => none
  | n + 1, x0, x1, x2, x3 => if x1 ≤ x3 then (some x2) else ((mg_gI w 2 x0 1).bind fun v1 => (fX3_twice x2 v1).bind fun v2 => fX2_upAfter_b7 w n x0 x1 v2 (x3 + (1 : Int32)))
set_option maxHeartbeats 4000000 in
set_option maxRecDepth 100000 in
theorem gX2_upAfter_b7 (hC : mg_Cx E p s m args meth c cX2_upAfter 4 (some .int) RX2) (w : mg_H) (sz : Nat) : ∀ (n : Nat) (x0 : Nat) (x1 : Int32) (x2 : Int32) (x3 : Int32) (cells slots : Nat), mg_G E p l e ({ frames := 1, cells := C, slots := S, locals := 22 } : Room) s m args below meth c 4 (mg_oR mg_vI w) (fX2_upAfter_b7 w n x0 x1 x2 x3) w sz cells slots 7 [(0, .ref x0), (1, .int x1), (2, .int x2), (3, .int x3)] [] := by
  intro n
  induction n with
  | zero => intros; exact fun o hf => by rw [fX2_upAfter_b7] at hf; cases hf
  | succ n ih =>
    intro x0 x1 x2 x3 cells slots
    rw [fX2_upAfter_b7]
    refine mg_iload_n (pc := 7) hC 3 dX2_upAfter_7 rfl ?_
    refine mg_iload_n (pc := 8) hC 1 dX2_upAfter_8 rfl ?_
    refine mg_icmp_ge (pc := 9) hC 27 dX2_upAfter_9 (by decide) (fun _ => ?_) (fun _ => ?_)
    · refine mg_iload_n (pc := 27) hC 2 dX2_upAfter_27 rfl ?_
      exact mg_iret (pc := 28) hC rfl dX2_upAfter_28
    · refine mg_iload_n (pc := 12) hC 2 dX2_upAfter_12 rfl ?_
      refine mg_aload_n (pc := 13) hC 0 dX2_upAfter_13 rfl ?_
      refine mg_getI (pc := 14) (ci := 2) (k := 1) hC mi_2 rfl (by decide) mw_72 dX2_upAfter_14 (fun v1 _ => ?_)
      refine mg_cRI (pc := 17) (fun r hr => mg_SN (rest := []) hC wdX3_twice mw_64 (List.mem_of_getElem? (i := 2) rfl) dX2_upAfter_17 rfl rfl ⟨Nat.le_of_ble_eq_true rfl, Nat.le_of_ble_eq_true rfl⟩ (Nat.le_of_ble_eq_true rfl) (kX3_twice hr)) (fun v2 _ => ?_)
      refine mg_istore_n (pc := 20) hC [(2, .int v2), (0, .ref x0), (1, .int x1), (3, .int x3)] dX2_upAfter_20 (by decide) rfl ?_
      refine mg_iinc (pc := 21) hC 3 (x3 + (1 : Int32)) [(3, .int (x3 + (1 : Int32))), (2, .int v2), (0, .ref x0), (1, .int x1)] dX2_upAfter_21 rfl rfl (by decide) rfl ?_
      refine mg_goto (pc := 24) hC 7 dX2_upAfter_24 (by decide) ?_
      exact mg_sub (pc := 7) [2, 3, 1, 0] (L' := [(0, .ref x0), (1, .int x1), (2, .int v2), (3, .int (x3 + (1 : Int32)))]) rfl (ih _ _ _ _ _ _)
def fX2_upAfter (x0 : Nat) (x1 : Int32) (w : mg_H) : Option (Int32) := (mg_gI w 2 x0 0).bind fun v1 => fX2_upAfter_b7 w mg_N x0 x1 v1 (0 : Int32)
set_option maxHeartbeats 4000000 in
set_option maxRecDepth 100000 in
theorem kX2_upAfter {E : mg_P} {l : Launch} {x0 : Nat} {x1 : Int32} {w : mg_H} {sz : Nat} {o : Int32} (hf : fX2_upAfter x0 x1 w = some o) : mg_C E l yX2_upAfter cX2_upAfter 4 (some .int) 1 22 [.ref x0, .int x1] w sz ((mg_oR mg_vI w) o) := by
  refine mg_meth (out := (mg_oR mg_vI w)) (by decide) (Nat.le_of_ble_eq_true rfl) hf ?_
  intro p e C S s m below meth c hC hin
  have hC : mg_Cx E p s m _ meth c cX2_upAfter 4 (some .int) RX2 := hC
  unfold fX2_upAfter
  refine mg_sub (pc := 0) [0, 1] (L' := [(0, .ref x0), (1, .int x1)]) rfl ?_
  refine mg_aload_n (pc := 0) hC 0 dX2_upAfter_0 rfl ?_
  refine mg_getI (pc := 1) (ci := 2) (k := 0) hC mi_2 rfl (by decide) mw_69 dX2_upAfter_1 (fun v1 _ => ?_)
  refine mg_istore_n (pc := 4) hC [(2, .int v1), (0, .ref x0), (1, .int x1)] dX2_upAfter_4 (by decide) rfl ?_
  refine mg_iconst (pc := 5) hC (0 : Int32) dX2_upAfter_5 (by decide) ?_
  refine mg_istore_n (pc := 6) hC [(3, .int (0 : Int32)), (2, .int v1), (0, .ref x0), (1, .int x1)] dX2_upAfter_6 (by decide) rfl ?_
  exact mg_sub (pc := 7) [2, 3, 1, 0] (L' := [(0, .ref x0), (1, .int x1), (2, .int v1), (3, .int (0 : Int32))]) rfl (gX2_upAfter_b7 hC _ _  _ _ _ _ _ _ _)
theorem wdX2_upAfter : mg_WdV 2 yX2_upAfter cX2_upAfter 4 (some .int) 1 := ⟨⟨mw_62, mw_3, by decide, by decide, by decide +kernel⟩, _, rfl, mw_60, mw_61⟩
def fX2_init (x0 : Nat) (x1 : Int64) (x3 : Int64) (w : mg_H) : Option (Unit × mg_H) := (fX3_greatestShared x1 x3).bind fun v1 => (fX3_over x1 v1).bind fun v2 => (mg_pI w 2 x0 0 (v2.toInt32)).bind fun w3 => (fX3_over x3 v1).bind fun v4 => (mg_pI w3 2 x0 1 (v4.toInt32)).bind fun w5 => (mg_gI w5 2 x0 1).bind fun v6 => (fX2_twosIn v6).bind fun v7 => (mg_pI w5 2 x0 2 v7).bind fun w8 => (mg_gI w8 2 x0 2).bind fun v9 => mg_rc w8 2 x0 ((fX2_upAfter x0 v9 w8).bind fun v10 => (mg_gI w8 2 x0 1).bind fun v11 => (fX2_lengthOfRing v10 v11).bind fun v12 => (mg_pI w8 2 x0 3 v12).bind fun w13 => some ((), w13))
set_option maxHeartbeats 4000000 in
set_option maxRecDepth 100000 in
theorem kX2_init {E : mg_P} {l : Launch} {x0 : Nat} {x1 : Int64} {x3 : Int64} {w : mg_H} {sz : Nat} {o : Unit × mg_H} (hf : fX2_init x0 x1 x3 w = some o) : mg_C E l yX2_init cX2_init 7 none 2 45 [.ref x0, .long x1, .long x3] w sz ((mg_oS mg_vV) o) := by
  refine mg_meth (out := (mg_oS mg_vV)) (by decide) (Nat.le_of_ble_eq_true rfl) hf ?_
  intro p e C S s m below meth c hC hin
  have hC : mg_Cx E p s m _ meth c cX2_init 7 none RX2 := hC
  have hin : meth.name = "<init>" := hin
  unfold fX2_init
  refine mg_sub (pc := 0) [0, 1, 2] (L' := [(0, .ref x0), (1, .long x1), (3, .long x3)]) rfl ?_
  refine mg_aload_n (pc := 0) hC 0 dX2_init_0 rfl ?_
  refine mg_objInit (pc := 1) hC mw_49 mw_13 mw_14 (Nat.le_of_ble_eq_true rfl) (Nat.le_of_ble_eq_true rfl) dX2_init_1 ?_
  refine mg_lload_n (pc := 4) hC 1 dX2_init_4 rfl ?_
  refine mg_lload_n (pc := 5) hC 2 dX2_init_5 rfl ?_
  refine mg_cRL (pc := 6) (fun r hr => mg_SN (rest := []) hC wdX3_greatestShared mw_51 (List.mem_of_getElem? (i := 0) rfl) dX2_init_6 rfl rfl ⟨Nat.le_of_ble_eq_true rfl, Nat.le_of_ble_eq_true rfl⟩ (Nat.le_of_ble_eq_true rfl) (kX3_greatestShared hr)) (fun v1 _ => ?_)
  refine mg_lstore (pc := 9) hC [(5, .long v1), (0, .ref x0), (1, .long x1), (3, .long x3)] dX2_init_9 (by decide) rfl ?_
  refine mg_aload_n (pc := 11) hC 1 dX2_init_11 rfl ?_
  refine mg_lload_n (pc := 12) hC 2 dX2_init_12 rfl ?_
  refine mg_lload (pc := 13) hC 0 dX2_init_13 rfl ?_
  refine mg_cRL (pc := 15) (fun r hr => mg_SN (rest := [.ref x0]) hC wdX3_over mw_54 (List.mem_of_getElem? (i := 1) rfl) dX2_init_15 rfl rfl ⟨Nat.le_of_ble_eq_true rfl, Nat.le_of_ble_eq_true rfl⟩ (Nat.le_of_ble_eq_true rfl) (kX3_over hr)) (fun v2 _ => ?_)
  refine mg_l2i (pc := 18) hC dX2_init_18 ?_
  refine mg_putI (pc := 19) (ci := 2) (k := 0) hC mi_2 rfl (by decide) tyX2 tyX2_ok nmX2 mw_69 dX2_init_19 (Or.inr ⟨rfl, hin, rfl⟩) rfl (fun w3 _ => ?_)
  refine mg_aload_n (pc := 22) hC 1 dX2_init_22 rfl ?_
  refine mg_lload_n (pc := 23) hC 3 dX2_init_23 rfl ?_
  refine mg_lload (pc := 24) hC 0 dX2_init_24 rfl ?_
  refine mg_cRL (pc := 26) (fun r hr => mg_SN (rest := [.ref x0]) hC wdX3_over mw_54 (List.mem_of_getElem? (i := 1) rfl) dX2_init_26 rfl rfl ⟨Nat.le_of_ble_eq_true rfl, Nat.le_of_ble_eq_true rfl⟩ (Nat.le_of_ble_eq_true rfl) (kX3_over hr)) (fun v4 _ => ?_)
  refine mg_l2i (pc := 29) hC dX2_init_29 ?_
  refine mg_putI (pc := 30) (ci := 2) (k := 1) hC mi_2 rfl (by decide) tyX2 tyX2_ok nmX2 mw_72 dX2_init_30 (Or.inr ⟨rfl, hin, rfl⟩) rfl (fun w5 _ => ?_)
  refine mg_aload_n (pc := 33) hC 1 dX2_init_33 rfl ?_
  refine mg_aload_n (pc := 34) hC 1 dX2_init_34 rfl ?_
  refine mg_getI (pc := 35) (ci := 2) (k := 1) hC mi_2 rfl (by decide) mw_72 dX2_init_35 (fun v6 _ => ?_)
  refine mg_cRI (pc := 38) (fun r hr => mg_S (rest := [.ref x0]) hC wdX2_twosIn mw_57 mw_56 dX2_init_38 rfl rfl ⟨Nat.le_of_ble_eq_true rfl, Nat.le_of_ble_eq_true rfl⟩ (Nat.le_of_ble_eq_true rfl) (kX2_twosIn hr)) (fun v7 _ => ?_)
  refine mg_putI (pc := 41) (ci := 2) (k := 2) hC mi_2 rfl (by decide) tyX2 tyX2_ok nmX2 mw_75 dX2_init_41 (Or.inr ⟨rfl, hin, rfl⟩) rfl (fun w8 _ => ?_)
  refine mg_aload_n (pc := 44) hC 1 dX2_init_44 rfl ?_
  refine mg_aload_n (pc := 45) hC 1 dX2_init_45 rfl ?_
  refine mg_aload_n (pc := 46) hC 1 dX2_init_46 rfl ?_
  refine mg_getI (pc := 47) (ci := 2) (k := 2) hC mi_2 rfl (by decide) mw_75 dX2_init_47 (fun v9 _ => ?_)
  refine mg_recv (ci := 2) (fun hb => ?_)
  refine mg_cRI (pc := 50) (fun r hr => mg_VR (rest := [.ref x0]) (av := [.int v9]) (ci := 2) hC wdX2_upAfter mw_59 dX2_init_50 rfl rfl ⟨Nat.le_of_ble_eq_true rfl, Nat.le_of_ble_eq_true rfl⟩ (Nat.le_of_ble_eq_true rfl) hb (kX2_upAfter hr)) (fun v10 _ => ?_)
  refine mg_aload_n (pc := 53) hC 1 dX2_init_53 rfl ?_
  refine mg_getI (pc := 54) (ci := 2) (k := 1) hC mi_2 rfl (by decide) mw_72 dX2_init_54 (fun v11 _ => ?_)
  refine mg_cRI (pc := 57) (fun r hr => mg_S (rest := [.ref x0]) hC wdX2_lengthOfRing mw_67 mw_66 dX2_init_57 rfl rfl ⟨Nat.le_of_ble_eq_true rfl, Nat.le_of_ble_eq_true rfl⟩ (Nat.le_of_ble_eq_true rfl) (kX2_lengthOfRing hr)) (fun v12 _ => ?_)
  refine mg_putI (pc := 60) (ci := 2) (k := 3) hC mi_2 rfl (by decide) tyX2 tyX2_ok nmX2 mw_77 dX2_init_60 (Or.inr ⟨rfl, hin, rfl⟩) rfl (fun w13 _ => ?_)
  exact mg_vret (pc := 63) hC rfl dX2_init_63
theorem wdX2_init : mg_Wd yX2_init cX2_init 7 none 2 := ⟨mw_48, mw_3, by decide, by decide, by decide +kernel⟩
end MG01
