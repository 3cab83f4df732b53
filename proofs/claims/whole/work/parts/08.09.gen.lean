section MG09
variable {E : mg_P} {p : Program} {l : Launch} {e : Env} {C S : Nat} {s : State} {m : MethodId} {args : Array Value} {below : List Frame} {meth : Method} {c : Code}
def fX4_isLess (x0 : Nat) (x1 : Int32) (x2 : Int32) (w : mg_H) : Option (Int32) := mg_gN w 4 x0 1 fun v1 => (mg_ldL w v1 x1).bind fun v2 => mg_gN w 4 x0 2 fun v3 => (mg_ldL w v3 x1).bind fun v4 => mg_gN w 4 x0 1 fun v5 => (mg_ldL w v5 x2).bind fun v6 => mg_gN w 4 x0 2 fun v7 => (mg_ldL w v7 x2).bind fun v8 => (fX4_isBelow v2 v4 v6 v8).bind fun v9 => if v9 &&& 1 = v9 then some v9 else none
set_option maxHeartbeats 4000000 in
set_option maxRecDepth 100000 in
theorem kX4_isLess {E : mg_P} {l : Launch} {x0 : Nat} {x1 : Int32} {x2 : Int32} {w : mg_H} {sz : Nat} {o : Int32} (hf : fX4_isLess x0 x1 x2 w = some o) : mg_C E l yX4_isLess cX4_isLess 3 (some .boolean) 1 27 [.ref x0, .int x1, .int x2] w sz ((mg_oR mg_vI w) o) := by
  refine mg_meth (out := (mg_oR mg_vI w)) (by decide) (Nat.le_of_ble_eq_true rfl) hf ?_
  intro p e C S s m below meth c hC hin
  have hC : mg_Cx E p s m _ meth c cX4_isLess 3 (some .boolean) RX4 := hC
  unfold fX4_isLess
  refine mg_sub (pc := 0) [0, 1, 2] (L' := [(0, .ref x0), (1, .int x1), (2, .int x2)]) rfl ?_
  refine mg_aload_n (pc := 0) hC 0 dX4_isLess_0 rfl ?_
  refine mg_getNN (pc := 1) (ci := 4) (k := 1) hC mi_4 rfl (by decide) mw_446 dX4_isLess_1 (fun v1 _ => ?_)
  refine mg_iload_n (pc := 4) hC 1 dX4_isLess_4 rfl ?_
  refine mg_lald (pc := 5) hC dX4_isLess_5 (fun v2 _ => ?_)
  refine mg_aload_n (pc := 6) hC 0 dX4_isLess_6 rfl ?_
  refine mg_getNN (pc := 7) (ci := 4) (k := 2) hC mi_4 rfl (by decide) mw_447 dX4_isLess_7 (fun v3 _ => ?_)
  refine mg_iload_n (pc := 10) hC 1 dX4_isLess_10 rfl ?_
  refine mg_lald (pc := 11) hC dX4_isLess_11 (fun v4 _ => ?_)
  refine mg_aload_n (pc := 12) hC 0 dX4_isLess_12 rfl ?_
  refine mg_getNN (pc := 13) (ci := 4) (k := 1) hC mi_4 rfl (by decide) mw_446 dX4_isLess_13 (fun v5 _ => ?_)
  refine mg_iload_n (pc := 16) hC 2 dX4_isLess_16 rfl ?_
  refine mg_lald (pc := 17) hC dX4_isLess_17 (fun v6 _ => ?_)
  refine mg_aload_n (pc := 18) hC 0 dX4_isLess_18 rfl ?_
  refine mg_getNN (pc := 19) (ci := 4) (k := 2) hC mi_4 rfl (by decide) mw_447 dX4_isLess_19 (fun v7 _ => ?_)
  refine mg_iload_n (pc := 22) hC 2 dX4_isLess_22 rfl ?_
  refine mg_lald (pc := 23) hC dX4_isLess_23 (fun v8 _ => ?_)
  refine mg_cRI (pc := 24) (fun r hr => mg_S (rest := []) hC wdX4_isBelow mw_443 mw_442 dX4_isLess_24 rfl rfl ⟨Nat.le_of_ble_eq_true rfl, Nat.le_of_ble_eq_true rfl⟩ (Nat.le_of_ble_eq_true rfl) (kX4_isBelow hr)) (fun v9 _ => ?_)
  exact mg_zret (pc := 27) hC rfl dX4_isLess_27
theorem wdX4_isLess : mg_WdV 4 yX4_isLess cX4_isLess 3 (some .boolean) 2 := ⟨⟨mw_554, mw_2, by decide, by decide, by decide +kernel⟩, _, rfl, mw_553, mw_p27⟩
def fX4_isSame (x0 : Nat) (x1 : Int32) (x2 : Int32) (w : mg_H) : Option (Int32) := mg_gN w 4 x0 1 fun v1 => (mg_ldL w v1 x1).bind fun v2 => mg_gN w 4 x0 1 fun v3 => (mg_ldL w v3 x2).bind fun v4 => if (lg_cmp v2 v4) = 0 then (mg_gN w 4 x0 2 fun v5 => (mg_ldL w v5 x1).bind fun v6 => mg_gN w 4 x0 2 fun v7 => (mg_ldL w v7 x2).bind fun v8 => if (lg_cmp v6 v8) = 0 then (some (1 : Int32)) else (some (0 : Int32))) else (some (0 : Int32))
set_option maxHeartbeats 4000000 in
set_option maxRecDepth 100000 in
theorem kX4_isSame {E : mg_P} {l : Launch} {x0 : Nat} {x1 : Int32} {x2 : Int32} {w : mg_H} {sz : Nat} {o : Int32} (hf : fX4_isSame x0 x1 x2 w = some o) : mg_C E l yX4_isSame cX4_isSame 3 (some .boolean) 0 0 [.ref x0, .int x1, .int x2] w sz ((mg_oR mg_vI w) o) := by
  refine mg_meth (out := (mg_oR mg_vI w)) (by decide) (Nat.le_of_ble_eq_true rfl) hf ?_
  intro p e C S s m below meth c hC hin
  have hC : mg_Cx E p s m _ meth c cX4_isSame 3 (some .boolean) RX4 := hC
  unfold fX4_isSame
  refine mg_sub (pc := 0) [0, 1, 2] (L' := [(0, .ref x0), (1, .int x1), (2, .int x2)]) rfl ?_
  refine mg_aload_n (pc := 0) hC 0 dX4_isSame_0 rfl ?_
  refine mg_getNN (pc := 1) (ci := 4) (k := 1) hC mi_4 rfl (by decide) mw_446 dX4_isSame_1 (fun v1 _ => ?_)
  refine mg_iload_n (pc := 4) hC 1 dX4_isSame_4 rfl ?_
  refine mg_lald (pc := 5) hC dX4_isSame_5 (fun v2 _ => ?_)
  refine mg_aload_n (pc := 6) hC 0 dX4_isSame_6 rfl ?_
  refine mg_getNN (pc := 7) (ci := 4) (k := 1) hC mi_4 rfl (by decide) mw_446 dX4_isSame_7 (fun v3 _ => ?_)
  refine mg_iload_n (pc := 10) hC 2 dX4_isSame_10 rfl ?_
  refine mg_lald (pc := 11) hC dX4_isSame_11 (fun v4 _ => ?_)
  refine mg_lcmp (pc := 12) hC dX4_isSame_12 ?_
  refine mg_if_ne (pc := 13) hC 36 dX4_isSame_13 (by decide) (fun _ => ?_) (fun _ => ?_)
  · refine mg_aload_n (pc := 16) hC 0 dX4_isSame_16 rfl ?_
    refine mg_getNN (pc := 17) (ci := 4) (k := 2) hC mi_4 rfl (by decide) mw_447 dX4_isSame_17 (fun v5 _ => ?_)
    refine mg_iload_n (pc := 20) hC 1 dX4_isSame_20 rfl ?_
    refine mg_lald (pc := 21) hC dX4_isSame_21 (fun v6 _ => ?_)
    refine mg_aload_n (pc := 22) hC 0 dX4_isSame_22 rfl ?_
    refine mg_getNN (pc := 23) (ci := 4) (k := 2) hC mi_4 rfl (by decide) mw_447 dX4_isSame_23 (fun v7 _ => ?_)
    refine mg_iload_n (pc := 26) hC 2 dX4_isSame_26 rfl ?_
    refine mg_lald (pc := 27) hC dX4_isSame_27 (fun v8 _ => ?_)
    refine mg_lcmp (pc := 28) hC dX4_isSame_28 ?_
    refine mg_if_ne (pc := 29) hC 36 dX4_isSame_29 (by decide) (fun _ => ?_) (fun _ => ?_)
    · refine mg_iconst (pc := 32) hC (1 : Int32) dX4_isSame_32 (by decide) ?_
      refine mg_goto (pc := 33) hC 37 dX4_isSame_33 (by decide) ?_
      exact mg_zretC (pc := 37) hC (by decide) rfl dX4_isSame_37
    · refine mg_iconst (pc := 36) hC (0 : Int32) dX4_isSame_36 (by decide) ?_
      exact mg_zretC (pc := 37) hC (by decide) rfl dX4_isSame_37
  · refine mg_iconst (pc := 36) hC (0 : Int32) dX4_isSame_36 (by decide) ?_
    exact mg_zretC (pc := 37) hC (by decide) rfl dX4_isSame_37
theorem wdX4_isSame : mg_WdV 4 yX4_isSame cX4_isSame 3 (some .boolean) 2 := ⟨⟨mw_546, mw_2, by decide, by decide, by decide +kernel⟩, _, rfl, mw_545, mw_p25⟩
def fX4_liesBetween (x0 : Nat) (x1 : Int32) (x2 : Int32) (x3 : Int32) (w : mg_H) : Option (Int32) := mg_rc w 4 x0 ((fX4_isLess x0 x2 x3 w).bind fun v1 => if v1 = 0 then (mg_rc w 4 x0 ((fX4_isLess x0 x3 x1 w).bind fun v2 => if v2 = 0 then (some (0 : Int32)) else (mg_rc w 4 x0 ((fX4_isLess x0 x1 x2 w).bind fun v3 => if v3 = 0 then (some (0 : Int32)) else (some (1 : Int32)))))) else (mg_rc w 4 x0 ((fX4_isLess x0 x2 x1 w).bind fun v4 => if v4 = 0 then (some (0 : Int32)) else (mg_rc w 4 x0 ((fX4_isLess x0 x1 x3 w).bind fun v5 => if v5 = 0 then (some (0 : Int32)) else (some (1 : Int32)))))))
set_option maxHeartbeats 4000000 in
set_option maxRecDepth 100000 in
theorem kX4_liesBetween {E : mg_P} {l : Launch} {x0 : Nat} {x1 : Int32} {x2 : Int32} {x3 : Int32} {w : mg_H} {sz : Nat} {o : Int32} (hf : fX4_liesBetween x0 x1 x2 x3 w = some o) : mg_C E l yX4_liesBetween cX4_liesBetween 4 (some .boolean) 2 49 [.ref x0, .int x1, .int x2, .int x3] w sz ((mg_oR mg_vI w) o) := by
  refine mg_meth (out := (mg_oR mg_vI w)) (by decide) (Nat.le_of_ble_eq_true rfl) hf ?_
  intro p e C S s m below meth c hC hin
  have hC : mg_Cx E p s m _ meth c cX4_liesBetween 4 (some .boolean) RX4 := hC
  unfold fX4_liesBetween
  refine mg_sub (pc := 0) [0, 1, 2, 3] (L' := [(0, .ref x0), (1, .int x1), (2, .int x2), (3, .int x3)]) rfl ?_
  refine mg_aload_n (pc := 0) hC 0 dX4_liesBetween_0 rfl ?_
  refine mg_iload_n (pc := 1) hC 2 dX4_liesBetween_1 rfl ?_
  refine mg_iload_n (pc := 2) hC 3 dX4_liesBetween_2 rfl ?_
  refine mg_recv (ci := 4) (fun hb => ?_)
  refine mg_cRI (pc := 3) (fun r hr => mg_VR (rest := []) (av := [.int x2, .int x3]) (ci := 4) hC wdX4_isLess mw_551 dX4_liesBetween_3 rfl rfl ⟨Nat.le_of_ble_eq_true rfl, Nat.le_of_ble_eq_true rfl⟩ (Nat.le_of_ble_eq_true rfl) hb (kX4_isLess hr)) (fun v1 _ => ?_)
  refine mg_if_eq (pc := 6) hC 35 dX4_liesBetween_6 (by decide) (fun _ => ?_) (fun _ => ?_)
  · refine mg_aload_n (pc := 35) hC 0 dX4_liesBetween_35 rfl ?_
    refine mg_iload_n (pc := 36) hC 3 dX4_liesBetween_36 rfl ?_
    refine mg_iload_n (pc := 37) hC 1 dX4_liesBetween_37 rfl ?_
    refine mg_recv (ci := 4) (fun hb => ?_)
    refine mg_cRI (pc := 38) (fun r hr => mg_VR (rest := []) (av := [.int x3, .int x1]) (ci := 4) hC wdX4_isLess mw_551 dX4_liesBetween_38 rfl rfl ⟨Nat.le_of_ble_eq_true rfl, Nat.le_of_ble_eq_true rfl⟩ (Nat.le_of_ble_eq_true rfl) hb (kX4_isLess hr)) (fun v2 _ => ?_)
    refine mg_if_eq (pc := 41) hC 57 dX4_liesBetween_41 (by decide) (fun _ => ?_) (fun _ => ?_)
    · refine mg_iconst (pc := 57) hC (0 : Int32) dX4_liesBetween_57 (by decide) ?_
      exact mg_zretC (pc := 58) hC (by decide) rfl dX4_liesBetween_58
    · refine mg_aload_n (pc := 44) hC 0 dX4_liesBetween_44 rfl ?_
      refine mg_iload_n (pc := 45) hC 1 dX4_liesBetween_45 rfl ?_
      refine mg_iload_n (pc := 46) hC 2 dX4_liesBetween_46 rfl ?_
      refine mg_recv (ci := 4) (fun hb => ?_)
      refine mg_cRI (pc := 47) (fun r hr => mg_VR (rest := []) (av := [.int x1, .int x2]) (ci := 4) hC wdX4_isLess mw_551 dX4_liesBetween_47 rfl rfl ⟨Nat.le_of_ble_eq_true rfl, Nat.le_of_ble_eq_true rfl⟩ (Nat.le_of_ble_eq_true rfl) hb (kX4_isLess hr)) (fun v3 _ => ?_)
      refine mg_if_eq (pc := 50) hC 57 dX4_liesBetween_50 (by decide) (fun _ => ?_) (fun _ => ?_)
      · refine mg_iconst (pc := 57) hC (0 : Int32) dX4_liesBetween_57 (by decide) ?_
        exact mg_zretC (pc := 58) hC (by decide) rfl dX4_liesBetween_58
      · refine mg_iconst (pc := 53) hC (1 : Int32) dX4_liesBetween_53 (by decide) ?_
        refine mg_goto (pc := 54) hC 58 dX4_liesBetween_54 (by decide) ?_
        exact mg_zretC (pc := 58) hC (by decide) rfl dX4_liesBetween_58
  · refine mg_aload_n (pc := 9) hC 0 dX4_liesBetween_9 rfl ?_
    refine mg_iload_n (pc := 10) hC 2 dX4_liesBetween_10 rfl ?_
    refine mg_iload_n (pc := 11) hC 1 dX4_liesBetween_11 rfl ?_
    refine mg_recv (ci := 4) (fun hb => ?_)
    refine mg_cRI (pc := 12) (fun r hr => mg_VR (rest := []) (av := [.int x2, .int x1]) (ci := 4) hC wdX4_isLess mw_551 dX4_liesBetween_12 rfl rfl ⟨Nat.le_of_ble_eq_true rfl, Nat.le_of_ble_eq_true rfl⟩ (Nat.le_of_ble_eq_true rfl) hb (kX4_isLess hr)) (fun v4 _ => ?_)
    refine mg_if_eq (pc := 15) hC 31 dX4_liesBetween_15 (by decide) (fun _ => ?_) (fun _ => ?_)
    · refine mg_iconst (pc := 31) hC (0 : Int32) dX4_liesBetween_31 (by decide) ?_
      refine mg_goto (pc := 32) hC 58 dX4_liesBetween_32 (by decide) ?_
      exact mg_zretC (pc := 58) hC (by decide) rfl dX4_liesBetween_58
    · refine mg_aload_n (pc := 18) hC 0 dX4_liesBetween_18 rfl ?_
      refine mg_iload_n (pc := 19) hC 1 dX4_liesBetween_19 rfl ?_
      refine mg_iload_n (pc := 20) hC 3 dX4_liesBetween_20 rfl ?_
      refine mg_recv (ci := 4) (fun hb => ?_)
      refine mg_cRI (pc := 21) (fun r hr => mg_VR (rest := []) (av := [.int x1, .int x3]) (ci := 4) hC wdX4_isLess mw_551 dX4_liesBetween_21 rfl rfl ⟨Nat.le_of_ble_eq_true rfl, Nat.le_of_ble_eq_true rfl⟩ (Nat.le_of_ble_eq_true rfl) hb (kX4_isLess hr)) (fun v5 _ => ?_)
      refine mg_if_eq (pc := 24) hC 31 dX4_liesBetween_24 (by decide) (fun _ => ?_) (fun _ => ?_)
      · refine mg_iconst (pc := 31) hC (0 : Int32) dX4_liesBetween_31 (by decide) ?_
        refine mg_goto (pc := 32) hC 58 dX4_liesBetween_32 (by decide) ?_
        exact mg_zretC (pc := 58) hC (by decide) rfl dX4_liesBetween_58
      · refine mg_iconst (pc := 27) hC (1 : Int32) dX4_liesBetween_27 (by decide) ?_
        refine mg_goto (pc := 28) hC 58 dX4_liesBetween_28 (by decide) ?_
        exact mg_zretC (pc := 58) hC (by decide) rfl dX4_liesBetween_58
theorem wdX4_liesBetween : mg_WdV 4 yX4_liesBetween cX4_liesBetween 4 (some .boolean) 3 := ⟨⟨mw_550, mw_2, by decide, by decide, by decide +kernel⟩, _, rfl, mw_549, mw_p26⟩
def fX4_cross (x0 : Nat) (x1 : Int32) (x2 : Int32) (x3 : Int32) (x4 : Int32) (w : mg_H) : Option (Int32) := mg_rc w 4 x0 ((fX4_isAngle x0 x1 w).bind fun v1 => if v1 = 0 then (some (-1 : Int32)) else (mg_rc w 4 x0 ((fX4_isAngle x0 x2 w).bind fun v2 => if v2 = 0 then (some (-1 : Int32)) else (mg_rc w 4 x0 ((fX4_isAngle x0 x3 w).bind fun v3 => if v3 = 0 then (some (-1 : Int32)) else (mg_rc w 4 x0 ((fX4_isAngle x0 x4 w).bind fun v4 => if v4 = 0 then (some (-1 : Int32)) else (mg_rc w 4 x0 ((fX4_isSame x0 x1 x3 w).bind fun v5 => if v5 = 0 then (mg_rc w 4 x0 ((fX4_isSame x0 x1 x4 w).bind fun v6 => if v6 = 0 then (mg_rc w 4 x0 ((fX4_isSame x0 x2 x3 w).bind fun v7 => if v7 = 0 then (mg_rc w 4 x0 ((fX4_isSame x0 x2 x4 w).bind fun v8 => if v8 = 0 then (mg_rc w 4 x0 ((fX4_liesBetween x0 x3 x1 x2 w).bind fun v9 => mg_rc w 4 x0 ((fX4_liesBetween x0 x4 x1 x2 w).bind fun v10 => if v9 = v10 then (some (0 : Int32)) else (some (1 : Int32))))) else (some (0 : Int32)))) else (some (0 : Int32)))) else (some (0 : Int32)))) else (some (0 : Int32)))))))))))
set_option maxHeartbeats 4000000 in
set_option maxRecDepth 100000 in
theorem kX4_cross {E : mg_P} {l : Launch} {x0 : Nat} {x1 : Int32} {x2 : Int32} {x3 : Int32} {x4 : Int32} {w : mg_H} {sz : Nat} {o : Int32} (hf : fX4_cross x0 x1 x2 x3 x4 w = some o) : mg_C E l yX4_cross cX4_cross 5 (some .int) 3 72 [.ref x0, .int x1, .int x2, .int x3, .int x4] w sz ((mg_oR mg_vI w) o) := by
  refine mg_meth (out := (mg_oR mg_vI w)) (by decide) (Nat.le_of_ble_eq_true rfl) hf ?_
  intro p e C S s m below meth c hC hin
  have hC : mg_Cx E p s m _ meth c cX4_cross 5 (some .int) RX4 := hC
  unfold fX4_cross
  refine mg_sub (pc := 0) [0, 1, 2, 3, 4] (L' := [(0, .ref x0), (1, .int x1), (2, .int x2), (3, .int x3), (4, .int x4)]) rfl ?_
  refine mg_aload_n (pc := 0) hC 0 dX4_cross_0 rfl ?_
  refine mg_iload_n (pc := 1) hC 1 dX4_cross_1 rfl ?_
  refine mg_recv (ci := 4) (fun hb => ?_)
  refine mg_cRI (pc := 2) (fun r hr => mg_VR (rest := []) (av := [.int x1]) (ci := 4) hC wdX4_isAngle mw_496 dX4_cross_2 rfl rfl ⟨Nat.le_of_ble_eq_true rfl, Nat.le_of_ble_eq_true rfl⟩ (Nat.le_of_ble_eq_true rfl) hb (kX4_isAngle hr)) (fun v1 _ => ?_)
  refine mg_if_eq (pc := 5) hC 33 dX4_cross_5 (by decide) (fun _ => ?_) (fun _ => ?_)
  · refine mg_iconst (pc := 33) hC (-1 : Int32) dX4_cross_33 (by decide) ?_
    exact mg_iret (pc := 34) hC rfl dX4_cross_34
  · refine mg_aload_n (pc := 8) hC 0 dX4_cross_8 rfl ?_
    refine mg_iload_n (pc := 9) hC 2 dX4_cross_9 rfl ?_
    refine mg_recv (ci := 4) (fun hb => ?_)
    refine mg_cRI (pc := 10) (fun r hr => mg_VR (rest := []) (av := [.int x2]) (ci := 4) hC wdX4_isAngle mw_496 dX4_cross_10 rfl rfl ⟨Nat.le_of_ble_eq_true rfl, Nat.le_of_ble_eq_true rfl⟩ (Nat.le_of_ble_eq_true rfl) hb (kX4_isAngle hr)) (fun v2 _ => ?_)
    refine mg_if_eq (pc := 13) hC 33 dX4_cross_13 (by decide) (fun _ => ?_) (fun _ => ?_)
    · refine mg_iconst (pc := 33) hC (-1 : Int32) dX4_cross_33 (by decide) ?_
      exact mg_iret (pc := 34) hC rfl dX4_cross_34
    · refine mg_aload_n (pc := 16) hC 0 dX4_cross_16 rfl ?_
      refine mg_iload_n (pc := 17) hC 3 dX4_cross_17 rfl ?_
      refine mg_recv (ci := 4) (fun hb => ?_)
      refine mg_cRI (pc := 18) (fun r hr => mg_VR (rest := []) (av := [.int x3]) (ci := 4) hC wdX4_isAngle mw_496 dX4_cross_18 rfl rfl ⟨Nat.le_of_ble_eq_true rfl, Nat.le_of_ble_eq_true rfl⟩ (Nat.le_of_ble_eq_true rfl) hb (kX4_isAngle hr)) (fun v3 _ => ?_)
      refine mg_if_eq (pc := 21) hC 33 dX4_cross_21 (by decide) (fun _ => ?_) (fun _ => ?_)
      · refine mg_iconst (pc := 33) hC (-1 : Int32) dX4_cross_33 (by decide) ?_
        exact mg_iret (pc := 34) hC rfl dX4_cross_34
      · refine mg_aload_n (pc := 24) hC 0 dX4_cross_24 rfl ?_
        refine mg_iload (pc := 25) hC 4 dX4_cross_25 rfl ?_
        refine mg_recv (ci := 4) (fun hb => ?_)
        refine mg_cRI (pc := 27) (fun r hr => mg_VR (rest := []) (av := [.int x4]) (ci := 4) hC wdX4_isAngle mw_496 dX4_cross_27 rfl rfl ⟨Nat.le_of_ble_eq_true rfl, Nat.le_of_ble_eq_true rfl⟩ (Nat.le_of_ble_eq_true rfl) hb (kX4_isAngle hr)) (fun v4 _ => ?_)
        refine mg_if_ne (pc := 30) hC 35 dX4_cross_30 (by decide) (fun _ => ?_) (fun _ => ?_)
        · refine mg_iconst (pc := 33) hC (-1 : Int32) dX4_cross_33 (by decide) ?_
          exact mg_iret (pc := 34) hC rfl dX4_cross_34
        · refine mg_aload_n (pc := 35) hC 0 dX4_cross_35 rfl ?_
          refine mg_iload_n (pc := 36) hC 1 dX4_cross_36 rfl ?_
          refine mg_iload_n (pc := 37) hC 3 dX4_cross_37 rfl ?_
          refine mg_recv (ci := 4) (fun hb => ?_)
          refine mg_cRI (pc := 38) (fun r hr => mg_VR (rest := []) (av := [.int x1, .int x3]) (ci := 4) hC wdX4_isSame mw_543 dX4_cross_38 rfl rfl ⟨Nat.le_of_ble_eq_true rfl, Nat.le_of_ble_eq_true rfl⟩ (Nat.le_of_ble_eq_true rfl) hb (kX4_isSame hr)) (fun v5 _ => ?_)
          refine mg_if_ne (pc := 41) hC 73 dX4_cross_41 (by decide) (fun _ => ?_) (fun _ => ?_)
          · refine mg_aload_n (pc := 44) hC 0 dX4_cross_44 rfl ?_
            refine mg_iload_n (pc := 45) hC 1 dX4_cross_45 rfl ?_
            refine mg_iload (pc := 46) hC 4 dX4_cross_46 rfl ?_
            refine mg_recv (ci := 4) (fun hb => ?_)
            refine mg_cRI (pc := 48) (fun r hr => mg_VR (rest := []) (av := [.int x1, .int x4]) (ci := 4) hC wdX4_isSame mw_543 dX4_cross_48 rfl rfl ⟨Nat.le_of_ble_eq_true rfl, Nat.le_of_ble_eq_true rfl⟩ (Nat.le_of_ble_eq_true rfl) hb (kX4_isSame hr)) (fun v6 _ => ?_)
            refine mg_if_ne (pc := 51) hC 73 dX4_cross_51 (by decide) (fun _ => ?_) (fun _ => ?_)
            · refine mg_aload_n (pc := 54) hC 0 dX4_cross_54 rfl ?_
              refine mg_iload_n (pc := 55) hC 2 dX4_cross_55 rfl ?_
              refine mg_iload_n (pc := 56) hC 3 dX4_cross_56 rfl ?_
              refine mg_recv (ci := 4) (fun hb => ?_)
              refine mg_cRI (pc := 57) (fun r hr => mg_VR (rest := []) (av := [.int x2, .int x3]) (ci := 4) hC wdX4_isSame mw_543 dX4_cross_57 rfl rfl ⟨Nat.le_of_ble_eq_true rfl, Nat.le_of_ble_eq_true rfl⟩ (Nat.le_of_ble_eq_true rfl) hb (kX4_isSame hr)) (fun v7 _ => ?_)
              refine mg_if_ne (pc := 60) hC 73 dX4_cross_60 (by decide) (fun _ => ?_) (fun _ => ?_)
              · refine mg_aload_n (pc := 63) hC 0 dX4_cross_63 rfl ?_
                refine mg_iload_n (pc := 64) hC 2 dX4_cross_64 rfl ?_
                refine mg_iload (pc := 65) hC 4 dX4_cross_65 rfl ?_
                refine mg_recv (ci := 4) (fun hb => ?_)
                refine mg_cRI (pc := 67) (fun r hr => mg_VR (rest := []) (av := [.int x2, .int x4]) (ci := 4) hC wdX4_isSame mw_543 dX4_cross_67 rfl rfl ⟨Nat.le_of_ble_eq_true rfl, Nat.le_of_ble_eq_true rfl⟩ (Nat.le_of_ble_eq_true rfl) hb (kX4_isSame hr)) (fun v8 _ => ?_)
                refine mg_if_eq (pc := 70) hC 75 dX4_cross_70 (by decide) (fun _ => ?_) (fun _ => ?_)
                · refine mg_aload_n (pc := 75) hC 0 dX4_cross_75 rfl ?_
                  refine mg_iload_n (pc := 76) hC 3 dX4_cross_76 rfl ?_
                  refine mg_iload_n (pc := 77) hC 1 dX4_cross_77 rfl ?_
                  refine mg_iload_n (pc := 78) hC 2 dX4_cross_78 rfl ?_
                  refine mg_recv (ci := 4) (fun hb => ?_)
                  refine mg_cRI (pc := 79) (fun r hr => mg_VR (rest := []) (av := [.int x3, .int x1, .int x2]) (ci := 4) hC wdX4_liesBetween mw_547 dX4_cross_79 rfl rfl ⟨Nat.le_of_ble_eq_true rfl, Nat.le_of_ble_eq_true rfl⟩ (Nat.le_of_ble_eq_true rfl) hb (kX4_liesBetween hr)) (fun v9 _ => ?_)
                  refine mg_aload_n (pc := 82) hC 0 dX4_cross_82 rfl ?_
                  refine mg_iload (pc := 83) hC 4 dX4_cross_83 rfl ?_
                  refine mg_iload_n (pc := 85) hC 1 dX4_cross_85 rfl ?_
                  refine mg_iload_n (pc := 86) hC 2 dX4_cross_86 rfl ?_
                  refine mg_recv (ci := 4) (fun hb => ?_)
                  refine mg_cRI (pc := 87) (fun r hr => mg_VR (rest := [.int v9]) (av := [.int x4, .int x1, .int x2]) (ci := 4) hC wdX4_liesBetween mw_547 dX4_cross_87 rfl rfl ⟨Nat.le_of_ble_eq_true rfl, Nat.le_of_ble_eq_true rfl⟩ (Nat.le_of_ble_eq_true rfl) hb (kX4_liesBetween hr)) (fun v10 _ => ?_)
                  refine mg_icmp_eq (pc := 90) hC 97 dX4_cross_90 (by decide) (fun _ => ?_) (fun _ => ?_)
                  · refine mg_iconst (pc := 97) hC (0 : Int32) dX4_cross_97 (by decide) ?_
                    exact mg_iret (pc := 98) hC rfl dX4_cross_98
                  · refine mg_iconst (pc := 93) hC (1 : Int32) dX4_cross_93 (by decide) ?_
                    refine mg_goto (pc := 94) hC 98 dX4_cross_94 (by decide) ?_
                    exact mg_iret (pc := 98) hC rfl dX4_cross_98
                · refine mg_iconst (pc := 73) hC (0 : Int32) dX4_cross_73 (by decide) ?_
                  exact mg_iret (pc := 74) hC rfl dX4_cross_74
              · refine mg_iconst (pc := 73) hC (0 : Int32) dX4_cross_73 (by decide) ?_
                exact mg_iret (pc := 74) hC rfl dX4_cross_74
            · refine mg_iconst (pc := 73) hC (0 : Int32) dX4_cross_73 (by decide) ?_
              exact mg_iret (pc := 74) hC rfl dX4_cross_74
          · refine mg_iconst (pc := 73) hC (0 : Int32) dX4_cross_73 (by decide) ?_
            exact mg_iret (pc := 74) hC rfl dX4_cross_74
theorem wdX4_cross : mg_WdV 4 yX4_cross cX4_cross 5 (some .int) 4 := ⟨⟨mw_542, mw_2, by decide, by decide, by decide +kernel⟩, _, rfl, mw_540, mw_541⟩
def fX4_meet_b219 (w : mg_H) (x11 : Int32) : Option (Int32) := if x11 = 0 then (some (0 : Int32)) else (some (1 : Int32))
set_option maxHeartbeats 4000000 in
set_option maxRecDepth 100000 in
theorem gX4_meet_b219 (hC : mg_Cx E p s m args meth c cX4_meet 15 (some .int) RX4) (w : mg_H) (sz : Nat) (x11 : Int32) (cells slots : Nat) : mg_G E p l e ({ frames := 2, cells := C, slots := S, locals := 46 } : Room) s m args below meth c 15 (mg_oR mg_vI w) (fX4_meet_b219 w x11) w sz cells slots 219 [(11, .int x11)] [] := by
  unfold fX4_meet_b219
  refine mg_iload (pc := 219) hC 0 dX4_meet_219 rfl ?_
  refine mg_if_eq (pc := 221) hC 228 dX4_meet_221 (by decide) (fun _ => ?_) (fun _ => ?_)
  · refine mg_iconst (pc := 228) hC (0 : Int32) dX4_meet_228 (by decide) ?_
    exact mg_iret (pc := 229) hC rfl dX4_meet_229
  · refine mg_iconst (pc := 224) hC (1 : Int32) dX4_meet_224 (by decide) ?_
    refine mg_goto (pc := 225) hC 229 dX4_meet_225 (by decide) ?_
    exact mg_iret (pc := 229) hC rfl dX4_meet_229
def fX4_meet_b181 (w : mg_H) (r91 : Nat → Int32 → Int32 → Int32 → Int32 → Int64 → Int64 → Int32 → Int32 → Option (Int32)) (x0 : Nat) (x1 : Int32) (x2 : Int32) (x3 : Int32) (x6 : Int32) (x7 : Int64) (x9 : Int64) (x12 : Int32) (s0 : Int32) : Option (Int32) := mg_gN w 4 x0 2 fun v1 => (mg_ldL w v1 x1).bind fun v2 => if v2 = 0 then none else (mg_gN w 4 x0 2 fun v3 => (mg_ldL w v3 x2).bind fun v4 => if v4 = 0 then none else (r91 x0 x1 x2 x3 x6 (((2 : Int64) * x7) - ((2 : Int64) * x7) / v2 * v2) (((2 : Int64) * x9) - ((2 : Int64) * x9) / v4 * v4) s0 (x12 + (1 : Int32))))
set_option maxHeartbeats 4000000 in
set_option maxRecDepth 100000 in
theorem gX4_meet_b181 (hC : mg_Cx E p s m args meth c cX4_meet 15 (some .int) RX4) (w : mg_H) (sz : Nat) (r91 : Nat → Int32 → Int32 → Int32 → Int32 → Int64 → Int64 → Int32 → Int32 → Option (Int32)) (hr91 : ∀ (z0 : Nat) (z1 : Int32) (z2 : Int32) (z3 : Int32) (z6 : Int32) (z7 : Int64) (z9 : Int64) (z11 : Int32) (z12 : Int32) (cells slots : Nat), mg_G E p l e ({ frames := 2, cells := C, slots := S, locals := 46 } : Room) s m args below meth c 15 (mg_oR mg_vI w) (r91 z0 z1 z2 z3 z6 z7 z9 z11 z12) w sz cells slots 91 [(0, .ref z0), (1, .int z1), (2, .int z2), (3, .int z3), (6, .int z6), (7, .long z7), (9, .long z9), (11, .int z11), (12, .int z12)] []) (x0 : Nat) (x1 : Int32) (x2 : Int32) (x3 : Int32) (x6 : Int32) (x7 : Int64) (x9 : Int64) (x12 : Int32) (s0 : Int32) (cells slots : Nat) : mg_G E p l e ({ frames := 2, cells := C, slots := S, locals := 46 } : Room) s m args below meth c 15 (mg_oR mg_vI w) (fX4_meet_b181 w r91 x0 x1 x2 x3 x6 x7 x9 x12 s0) w sz cells slots 181 [(0, .ref x0), (1, .int x1), (2, .int x2), (3, .int x3), (6, .int x6), (7, .long x7), (9, .long x9), (12, .int x12)] [.int s0] := by
  unfold fX4_meet_b181
  refine mg_istore (pc := 181) hC [(11, .int s0), (0, .ref x0), (1, .int x1), (2, .int x2), (3, .int x3), (6, .int x6), (7, .long x7), (9, .long x9), (12, .int x12)] dX4_meet_181 (by decide) rfl ?_
  refine mg_ldc2 (pc := 183) hC (2 : Int64) dX4_meet_183 mw_437 ?_
  refine mg_lload (pc := 186) hC 6 dX4_meet_186 rfl ?_
  refine mg_lmul (pc := 188) hC dX4_meet_188 ?_
  refine mg_aload_n (pc := 189) hC 1 dX4_meet_189 rfl ?_
  refine mg_getNN (pc := 190) (ci := 4) (k := 2) hC mi_4 rfl (by decide) mw_447 dX4_meet_190 (fun v1 _ => ?_)
  refine mg_iload_n (pc := 193) hC 2 dX4_meet_193 rfl ?_
  refine mg_lald (pc := 194) hC dX4_meet_194 (fun v2 _ => ?_)
  refine mg_lrem (pc := 195) hC dX4_meet_195 ?_
  refine mg_lstore (pc := 196) hC [(7, .long (((2 : Int64) * x7) - ((2 : Int64) * x7) / v2 * v2)), (11, .int s0), (0, .ref x0), (1, .int x1), (2, .int x2), (3, .int x3), (6, .int x6), (9, .long x9), (12, .int x12)] dX4_meet_196 (by decide) rfl ?_
  refine mg_ldc2 (pc := 198) hC (2 : Int64) dX4_meet_198 mw_437 ?_
  refine mg_lload (pc := 201) hC 7 dX4_meet_201 rfl ?_
  refine mg_lmul (pc := 203) hC dX4_meet_203 ?_
  refine mg_aload_n (pc := 204) hC 2 dX4_meet_204 rfl ?_
  refine mg_getNN (pc := 205) (ci := 4) (k := 2) hC mi_4 rfl (by decide) mw_447 dX4_meet_205 (fun v3 _ => ?_)
  refine mg_iload_n (pc := 208) hC 4 dX4_meet_208 rfl ?_
  refine mg_lald (pc := 209) hC dX4_meet_209 (fun v4 _ => ?_)
  refine mg_lrem (pc := 210) hC dX4_meet_210 ?_
  refine mg_lstore (pc := 211) hC [(9, .long (((2 : Int64) * x9) - ((2 : Int64) * x9) / v4 * v4)), (7, .long (((2 : Int64) * x7) - ((2 : Int64) * x7) / v2 * v2)), (11, .int s0), (0, .ref x0), (1, .int x1), (2, .int x2), (3, .int x3), (6, .int x6), (12, .int x12)] dX4_meet_211 (by decide) rfl ?_
  refine mg_iinc (pc := 213) hC 8 (x12 + (1 : Int32)) [(12, .int (x12 + (1 : Int32))), (9, .long (((2 : Int64) * x9) - ((2 : Int64) * x9) / v4 * v4)), (7, .long (((2 : Int64) * x7) - ((2 : Int64) * x7) / v2 * v2)), (11, .int s0), (0, .ref x0), (1, .int x1), (2, .int x2), (3, .int x3), (6, .int x6)] dX4_meet_213 rfl rfl (by decide) rfl ?_
  refine mg_goto (pc := 216) hC 91 dX4_meet_216 (by decide) ?_
  exact mg_sub (pc := 91) [4, 5, 6, 7, 8, 2, 1, 3, 0] (L' := [(0, .ref x0), (1, .int x1), (2, .int x2), (3, .int x3), (6, .int x6), (7, .long (((2 : Int64) * x7) - ((2 : Int64) * x7) / v2 * v2)), (9, .long (((2 : Int64) * x9) - ((2 : Int64) * x9) / v4 * v4)), (11, .int s0), (12, .int (x12 + (1 : Int32)))]) rfl (hr91 _ _ _ _ _ _ _ _ _ _ _)
def fX4_meet_b176 (w : mg_H) (r91 : Nat → Int32 → Int32 → Int32 → Int32 → Int64 → Int64 → Int32 → Int32 → Option (Int32)) (x0 : Nat) (x1 : Int32) (x2 : Int32) (x3 : Int32) (x6 : Int32) (x7 : Int64) (x9 : Int64) (x12 : Int32) : Option (Int32) := fX4_meet_b181 w r91 x0 x1 x2 x3 x6 x7 x9 x12 (1 : Int32)
set_option maxHeartbeats 4000000 in
set_option maxRecDepth 100000 in
theorem gX4_meet_b176 (hC : mg_Cx E p s m args meth c cX4_meet 15 (some .int) RX4) (w : mg_H) (sz : Nat) (r91 : Nat → Int32 → Int32 → Int32 → Int32 → Int64 → Int64 → Int32 → Int32 → Option (Int32)) (hr91 : ∀ (z0 : Nat) (z1 : Int32) (z2 : Int32) (z3 : Int32) (z6 : Int32) (z7 : Int64) (z9 : Int64) (z11 : Int32) (z12 : Int32) (cells slots : Nat), mg_G E p l e ({ frames := 2, cells := C, slots := S, locals := 46 } : Room) s m args below meth c 15 (mg_oR mg_vI w) (r91 z0 z1 z2 z3 z6 z7 z9 z11 z12) w sz cells slots 91 [(0, .ref z0), (1, .int z1), (2, .int z2), (3, .int z3), (6, .int z6), (7, .long z7), (9, .long z9), (11, .int z11), (12, .int z12)] []) (x0 : Nat) (x1 : Int32) (x2 : Int32) (x3 : Int32) (x6 : Int32) (x7 : Int64) (x9 : Int64) (x12 : Int32) (cells slots : Nat) : mg_G E p l e ({ frames := 2, cells := C, slots := S, locals := 46 } : Room) s m args below meth c 15 (mg_oR mg_vI w) (fX4_meet_b176 w r91 x0 x1 x2 x3 x6 x7 x9 x12) w sz cells slots 176 [(0, .ref x0), (1, .int x1), (2, .int x2), (3, .int x3), (6, .int x6), (7, .long x7), (9, .long x9), (12, .int x12)] [] := by
  unfold fX4_meet_b176
  refine mg_iconst (pc := 176) hC (1 : Int32) dX4_meet_176 (by decide) ?_
  refine mg_goto (pc := 177) hC 181 dX4_meet_177 (by decide) ?_
  exact mg_sub (pc := 181) [0, 1, 2, 3, 4, 5, 6, 7] (L' := [(0, .ref x0), (1, .int x1), (2, .int x2), (3, .int x3), (6, .int x6), (7, .long x7), (9, .long x9), (12, .int x12)]) rfl (gX4_meet_b181 hC _ _ _ hr91 _ _ _ _ _ _ _ _ _ _ _)
def fX4_meet_b91 (w : mg_H) : Nat → Nat → Int32 → Int32 → Int32 → Int32 → Int64 → Int64 → Int32 → Int32 → Option (Int32)
  | 0, _, _, _, _, _, _, _, _, _ => none
  | n + 1, x0, x1, x2, x3, x6, x7, x9, x11, x12 => if (x6 + (512 : Int32)) ≤ x12 then (fX4_meet_b219 w x11) else (if x11 = 0 then (fX4_meet_b219 w x11) else (mg_gN w 4 x0 2 fun v1 => (mg_ldL w v1 x1).bind fun v2 => mg_gN w 4 x0 1 fun v3 => (mg_ldL w v3 x3).bind fun v4 => mg_gN w 4 x0 2 fun v5 => (mg_ldL w v5 x3).bind fun v6 => (fX4_side x7 v2 v4 v6).bind fun v7 => mg_gN w 4 x0 2 fun v8 => (mg_ldL w v8 x2).bind fun v9 => mg_gN w 4 x0 1 fun v10 => (mg_ldL w v10 x3).bind fun v11 => mg_gN w 4 x0 2 fun v12 => (mg_ldL w v12 x3).bind fun v13 => (fX4_side x9 v9 v11 v13).bind fun v14 => if v7 = v14 then (fX4_meet_b176 w (fX4_meet_b91 w n) x0 x1 x2 x3 x6 x7 x9 x12) else (if v7 = (2 : Int32) then (fX4_meet_b176 w (fX4_meet_b91 w n) x0 x1 x2 x3 x6 x7 x9 x12) else (if v14 = (2 : Int32) then (fX4_meet_b176 w (fX4_meet_b91 w n) x0 x1 x2 x3 x6 x7 x9 x12) else (fX4_meet_b181 w (fX4_meet_b91 w n) x0 x1 x2 x3 x6 x7 x9 x12 (0 : Int32))))))
set_option maxHeartbeats 4000000 in
set_option maxRecDepth 100000 in
theorem gX4_meet_b91 (hC : mg_Cx E p s m args meth c cX4_meet 15 (some .int) RX4) (w : mg_H) (sz : Nat) : ∀ (n : Nat) (x0 : Nat) (x1 : Int32) (x2 : Int32) (x3 : Int32) (x6 : Int32) (x7 : Int64) (x9 : Int64) (x11 : Int32) (x12 : Int32) (cells slots : Nat), mg_G E p l e ({ frames := 2, cells := C, slots := S, locals := 46 } : Room) s m args below meth c 15 (mg_oR mg_vI w) (fX4_meet_b91 w n x0 x1 x2 x3 x6 x7 x9 x11 x12) w sz cells slots 91 [(0, .ref x0), (1, .int x1), (2, .int x2), (3, .int x3), (6, .int x6), (7, .long x7), (9, .long x9), (11, .int x11), (12, .int x12)] [] := by
  intro n
  induction n with
  | zero => intros; exact fun o hf => by rw [fX4_meet_b91] at hf; cases hf
  | succ n ih =>
    intro x0 x1 x2 x3 x6 x7 x9 x11 x12 cells slots
    rw [fX4_meet_b91]
    refine mg_iload (pc := 91) hC 8 dX4_meet_91 rfl ?_
    refine mg_iload (pc := 93) hC 4 dX4_meet_93 rfl ?_
    refine mg_sipush (pc := 95) hC (512 : Int32) dX4_meet_95 (by decide) ?_
    refine mg_iadd (pc := 98) hC dX4_meet_98 ?_
    refine mg_icmp_ge (pc := 99) hC 219 dX4_meet_99 (by decide) (fun _ => ?_) (fun _ => ?_)
    · exact mg_sub (pc := 219) [7] (L' := [(11, .int x11)]) rfl (gX4_meet_b219 hC _ _  _ _ _)
    · refine mg_iload (pc := 102) hC 7 dX4_meet_102 rfl ?_
      refine mg_if_eq (pc := 104) hC 219 dX4_meet_104 (by decide) (fun _ => ?_) (fun _ => ?_)
      · exact mg_sub (pc := 219) [7] (L' := [(11, .int x11)]) rfl (gX4_meet_b219 hC _ _  _ _ _)
      · refine mg_lload (pc := 107) hC 5 dX4_meet_107 rfl ?_
        refine mg_aload_n (pc := 109) hC 0 dX4_meet_109 rfl ?_
        refine mg_getNN (pc := 110) (ci := 4) (k := 2) hC mi_4 rfl (by decide) mw_447 dX4_meet_110 (fun v1 _ => ?_)
        refine mg_iload_n (pc := 113) hC 1 dX4_meet_113 rfl ?_
        refine mg_lald (pc := 114) hC dX4_meet_114 (fun v2 _ => ?_)
        refine mg_aload_n (pc := 115) hC 0 dX4_meet_115 rfl ?_
        refine mg_getNN (pc := 116) (ci := 4) (k := 1) hC mi_4 rfl (by decide) mw_446 dX4_meet_116 (fun v3 _ => ?_)
        refine mg_iload_n (pc := 119) hC 3 dX4_meet_119 rfl ?_
        refine mg_lald (pc := 120) hC dX4_meet_120 (fun v4 _ => ?_)
        refine mg_aload_n (pc := 121) hC 0 dX4_meet_121 rfl ?_
        refine mg_getNN (pc := 122) (ci := 4) (k := 2) hC mi_4 rfl (by decide) mw_447 dX4_meet_122 (fun v5 _ => ?_)
        refine mg_iload_n (pc := 125) hC 3 dX4_meet_125 rfl ?_
        refine mg_lald (pc := 126) hC dX4_meet_126 (fun v6 _ => ?_)
        refine mg_cRI (pc := 127) (fun r hr => mg_S (rest := []) hC wdX4_side mw_529 mw_528 dX4_meet_127 rfl rfl ⟨Nat.le_of_ble_eq_true rfl, Nat.le_of_ble_eq_true rfl⟩ (Nat.le_of_ble_eq_true rfl) (kX4_side hr)) (fun v7 _ => ?_)
        refine mg_istore (pc := 130) hC [(13, .int v7), (0, .ref x0), (1, .int x1), (2, .int x2), (3, .int x3), (6, .int x6), (7, .long x7), (9, .long x9), (11, .int x11), (12, .int x12)] dX4_meet_130 (by decide) rfl ?_
        refine mg_lload (pc := 132) hC 7 dX4_meet_132 rfl ?_
        refine mg_aload_n (pc := 134) hC 1 dX4_meet_134 rfl ?_
        refine mg_getNN (pc := 135) (ci := 4) (k := 2) hC mi_4 rfl (by decide) mw_447 dX4_meet_135 (fun v8 _ => ?_)
        refine mg_iload_n (pc := 138) hC 3 dX4_meet_138 rfl ?_
        refine mg_lald (pc := 139) hC dX4_meet_139 (fun v9 _ => ?_)
        refine mg_aload_n (pc := 140) hC 1 dX4_meet_140 rfl ?_
        refine mg_getNN (pc := 141) (ci := 4) (k := 1) hC mi_4 rfl (by decide) mw_446 dX4_meet_141 (fun v10 _ => ?_)
        refine mg_iload_n (pc := 144) hC 4 dX4_meet_144 rfl ?_
        refine mg_lald (pc := 145) hC dX4_meet_145 (fun v11 _ => ?_)
        refine mg_aload_n (pc := 146) hC 1 dX4_meet_146 rfl ?_
        refine mg_getNN (pc := 147) (ci := 4) (k := 2) hC mi_4 rfl (by decide) mw_447 dX4_meet_147 (fun v12 _ => ?_)
        refine mg_iload_n (pc := 150) hC 4 dX4_meet_150 rfl ?_
        refine mg_lald (pc := 151) hC dX4_meet_151 (fun v13 _ => ?_)
        refine mg_cRI (pc := 152) (fun r hr => mg_S (rest := []) hC wdX4_side mw_529 mw_528 dX4_meet_152 rfl rfl ⟨Nat.le_of_ble_eq_true rfl, Nat.le_of_ble_eq_true rfl⟩ (Nat.le_of_ble_eq_true rfl) (kX4_side hr)) (fun v14 _ => ?_)
        refine mg_istore (pc := 155) hC [(14, .int v14), (13, .int v7), (0, .ref x0), (1, .int x1), (2, .int x2), (3, .int x3), (6, .int x6), (7, .long x7), (9, .long x9), (11, .int x11), (12, .int x12)] dX4_meet_155 (by decide) rfl ?_
        refine mg_iload (pc := 157) hC 1 dX4_meet_157 rfl ?_
        refine mg_iload (pc := 159) hC 0 dX4_meet_159 rfl ?_
        refine mg_icmp_eq (pc := 161) hC 176 dX4_meet_161 (by decide) (fun _ => ?_) (fun _ => ?_)
        · exact mg_sub (pc := 176) [2, 3, 4, 5, 6, 7, 8, 10] (L' := [(0, .ref x0), (1, .int x1), (2, .int x2), (3, .int x3), (6, .int x6), (7, .long x7), (9, .long x9), (12, .int x12)]) rfl (gX4_meet_b176 hC _ _ _ ih _ _ _ _ _ _ _ _ _ _)
        · refine mg_iload (pc := 164) hC 1 dX4_meet_164 rfl ?_
          refine mg_iconst (pc := 166) hC (2 : Int32) dX4_meet_166 (by decide) ?_
          refine mg_icmp_eq (pc := 167) hC 176 dX4_meet_167 (by decide) (fun _ => ?_) (fun _ => ?_)
          · exact mg_sub (pc := 176) [2, 3, 4, 5, 6, 7, 8, 10] (L' := [(0, .ref x0), (1, .int x1), (2, .int x2), (3, .int x3), (6, .int x6), (7, .long x7), (9, .long x9), (12, .int x12)]) rfl (gX4_meet_b176 hC _ _ _ ih _ _ _ _ _ _ _ _ _ _)
          · refine mg_iload (pc := 170) hC 0 dX4_meet_170 rfl ?_
            refine mg_iconst (pc := 172) hC (2 : Int32) dX4_meet_172 (by decide) ?_
            refine mg_icmp_ne (pc := 173) hC 180 dX4_meet_173 (by decide) (fun _ => ?_) (fun _ => ?_)
            · exact mg_sub (pc := 176) [2, 3, 4, 5, 6, 7, 8, 10] (L' := [(0, .ref x0), (1, .int x1), (2, .int x2), (3, .int x3), (6, .int x6), (7, .long x7), (9, .long x9), (12, .int x12)]) rfl (gX4_meet_b176 hC _ _ _ ih _ _ _ _ _ _ _ _ _ _)
            · refine mg_iconst (pc := 180) hC (0 : Int32) dX4_meet_180 (by decide) ?_
              exact mg_sub (pc := 181) [2, 3, 4, 5, 6, 7, 8, 10] (L' := [(0, .ref x0), (1, .int x1), (2, .int x2), (3, .int x3), (6, .int x6), (7, .long x7), (9, .long x9), (12, .int x12)]) rfl (gX4_meet_b181 hC _ _ _ ih _ _ _ _ _ _ _ _ _ _ _)
def fX4_meet (x0 : Nat) (x1 : Int32) (x2 : Int32) (x3 : Int32) (w : mg_H) : Option (Int32) := mg_rc w 4 x0 ((fX4_isAngle x0 x1 w).bind fun v1 => if v1 = 0 then (some (-1 : Int32)) else (mg_rc w 4 x0 ((fX4_isAngle x0 x2 w).bind fun v2 => if v2 = 0 then (some (-1 : Int32)) else (mg_rc w 4 x0 ((fX4_isAngle x0 x3 w).bind fun v3 => if v3 = 0 then (some (-1 : Int32)) else (mg_gN w 4 x0 2 fun v4 => (mg_ldL w v4 x1).bind fun v5 => (fX4_lengthOf v5).bind fun v6 => mg_gN w 4 x0 2 fun v7 => (mg_ldL w v7 x2).bind fun v8 => (fX4_lengthOf v8).bind fun v9 => (fX4_divisor (v6.toInt64) (v9.toInt64)).bind fun v10 => if (v10.toInt32) = 0 then none else (mg_gN w 4 x0 1 fun v11 => (mg_ldL w v11 x1).bind fun v12 => mg_gN w 4 x0 1 fun v13 => (mg_ldL w v13 x2).bind fun v14 => fX4_meet_b91 w mg_N x0 x1 x2 x3 ((10 : Int32) + ((v6 / (v10.toInt32)) * v9)) v12 v14 (1 : Int32) (0 : Int32))))))))
set_option maxHeartbeats 4000000 in
set_option maxRecDepth 100000 in
theorem kX4_meet {E : mg_P} {l : Launch} {x0 : Nat} {x1 : Int32} {x2 : Int32} {x3 : Int32} {w : mg_H} {sz : Nat} {o : Int32} (hf : fX4_meet x0 x1 x2 x3 w = some o) : mg_C E l yX4_meet cX4_meet 15 (some .int) 2 46 [.ref x0, .int x1, .int x2, .int x3] w sz ((mg_oR mg_vI w) o) := by
  refine mg_meth (out := (mg_oR mg_vI w)) (by decide) (Nat.le_of_ble_eq_true rfl) hf ?_
  intro p e C S s m below meth c hC hin
  have hC : mg_Cx E p s m _ meth c cX4_meet 15 (some .int) RX4 := hC
  unfold fX4_meet
  refine mg_sub (pc := 0) [0, 1, 2, 3] (L' := [(0, .ref x0), (1, .int x1), (2, .int x2), (3, .int x3)]) rfl ?_
  refine mg_aload_n (pc := 0) hC 0 dX4_meet_0 rfl ?_
  refine mg_iload_n (pc := 1) hC 1 dX4_meet_1 rfl ?_
  refine mg_recv (ci := 4) (fun hb => ?_)
  refine mg_cRI (pc := 2) (fun r hr => mg_VR (rest := []) (av := [.int x1]) (ci := 4) hC wdX4_isAngle mw_496 dX4_meet_2 rfl rfl ⟨Nat.le_of_ble_eq_true rfl, Nat.le_of_ble_eq_true rfl⟩ (Nat.le_of_ble_eq_true rfl) hb (kX4_isAngle hr)) (fun v1 _ => ?_)
  refine mg_if_eq (pc := 5) hC 24 dX4_meet_5 (by decide) (fun _ => ?_) (fun _ => ?_)
  · refine mg_iconst (pc := 24) hC (-1 : Int32) dX4_meet_24 (by decide) ?_
    exact mg_iret (pc := 25) hC rfl dX4_meet_25
  · refine mg_aload_n (pc := 8) hC 0 dX4_meet_8 rfl ?_
    refine mg_iload_n (pc := 9) hC 2 dX4_meet_9 rfl ?_
    refine mg_recv (ci := 4) (fun hb => ?_)
    refine mg_cRI (pc := 10) (fun r hr => mg_VR (rest := []) (av := [.int x2]) (ci := 4) hC wdX4_isAngle mw_496 dX4_meet_10 rfl rfl ⟨Nat.le_of_ble_eq_true rfl, Nat.le_of_ble_eq_true rfl⟩ (Nat.le_of_ble_eq_true rfl) hb (kX4_isAngle hr)) (fun v2 _ => ?_)
    refine mg_if_eq (pc := 13) hC 24 dX4_meet_13 (by decide) (fun _ => ?_) (fun _ => ?_)
    · refine mg_iconst (pc := 24) hC (-1 : Int32) dX4_meet_24 (by decide) ?_
      exact mg_iret (pc := 25) hC rfl dX4_meet_25
    · refine mg_aload_n (pc := 16) hC 0 dX4_meet_16 rfl ?_
      refine mg_iload_n (pc := 17) hC 3 dX4_meet_17 rfl ?_
      refine mg_recv (ci := 4) (fun hb => ?_)
      refine mg_cRI (pc := 18) (fun r hr => mg_VR (rest := []) (av := [.int x3]) (ci := 4) hC wdX4_isAngle mw_496 dX4_meet_18 rfl rfl ⟨Nat.le_of_ble_eq_true rfl, Nat.le_of_ble_eq_true rfl⟩ (Nat.le_of_ble_eq_true rfl) hb (kX4_isAngle hr)) (fun v3 _ => ?_)
      refine mg_if_ne (pc := 21) hC 26 dX4_meet_21 (by decide) (fun _ => ?_) (fun _ => ?_)
      · refine mg_iconst (pc := 24) hC (-1 : Int32) dX4_meet_24 (by decide) ?_
        exact mg_iret (pc := 25) hC rfl dX4_meet_25
      · refine mg_aload_n (pc := 26) hC 0 dX4_meet_26 rfl ?_
        refine mg_getNN (pc := 27) (ci := 4) (k := 2) hC mi_4 rfl (by decide) mw_447 dX4_meet_27 (fun v4 _ => ?_)
        refine mg_iload_n (pc := 30) hC 1 dX4_meet_30 rfl ?_
        refine mg_lald (pc := 31) hC dX4_meet_31 (fun v5 _ => ?_)
        refine mg_cRI (pc := 32) (fun r hr => mg_S (rest := []) hC wdX4_lengthOf mw_435 mw_434 dX4_meet_32 rfl rfl ⟨Nat.le_of_ble_eq_true rfl, Nat.le_of_ble_eq_true rfl⟩ (Nat.le_of_ble_eq_true rfl) (kX4_lengthOf hr)) (fun v6 _ => ?_)
        refine mg_istore (pc := 35) hC [(4, .int v6), (0, .ref x0), (1, .int x1), (2, .int x2), (3, .int x3)] dX4_meet_35 (by decide) rfl ?_
        refine mg_aload_n (pc := 37) hC 1 dX4_meet_37 rfl ?_
        refine mg_getNN (pc := 38) (ci := 4) (k := 2) hC mi_4 rfl (by decide) mw_447 dX4_meet_38 (fun v7 _ => ?_)
        refine mg_iload_n (pc := 41) hC 3 dX4_meet_41 rfl ?_
        refine mg_lald (pc := 42) hC dX4_meet_42 (fun v8 _ => ?_)
        refine mg_cRI (pc := 43) (fun r hr => mg_S (rest := []) hC wdX4_lengthOf mw_435 mw_434 dX4_meet_43 rfl rfl ⟨Nat.le_of_ble_eq_true rfl, Nat.le_of_ble_eq_true rfl⟩ (Nat.le_of_ble_eq_true rfl) (kX4_lengthOf hr)) (fun v9 _ => ?_)
        refine mg_istore (pc := 46) hC [(5, .int v9), (4, .int v6), (0, .ref x0), (1, .int x1), (2, .int x2), (3, .int x3)] dX4_meet_46 (by decide) rfl ?_
        refine mg_bipush (pc := 48) hC (10 : Int32) dX4_meet_48 (by decide) ?_
        refine mg_iload (pc := 50) hC 1 dX4_meet_50 rfl ?_
        refine mg_iload (pc := 52) hC 1 dX4_meet_52 rfl ?_
        refine mg_i2l (pc := 54) hC dX4_meet_54 ?_
        refine mg_iload (pc := 55) hC 0 dX4_meet_55 rfl ?_
        refine mg_i2l (pc := 57) hC dX4_meet_57 ?_
        refine mg_cRL (pc := 58) (fun r hr => mg_S (rest := [.int v6, .int (10 : Int32)]) hC wdX4_divisor mw_432 mw_431 dX4_meet_58 rfl rfl ⟨Nat.le_of_ble_eq_true rfl, Nat.le_of_ble_eq_true rfl⟩ (Nat.le_of_ble_eq_true rfl) (kX4_divisor hr)) (fun v10 _ => ?_)
        refine mg_l2i (pc := 61) hC dX4_meet_61 ?_
        refine mg_idiv (pc := 62) hC dX4_meet_62 ?_
        refine mg_iload (pc := 63) hC 0 dX4_meet_63 rfl ?_
        refine mg_imul (pc := 65) hC dX4_meet_65 ?_
        refine mg_iadd (pc := 66) hC dX4_meet_66 ?_
        refine mg_istore (pc := 67) hC [(6, .int ((10 : Int32) + ((v6 / (v10.toInt32)) * v9))), (5, .int v9), (4, .int v6), (0, .ref x0), (1, .int x1), (2, .int x2), (3, .int x3)] dX4_meet_67 (by decide) rfl ?_
        refine mg_aload_n (pc := 69) hC 3 dX4_meet_69 rfl ?_
        refine mg_getNN (pc := 70) (ci := 4) (k := 1) hC mi_4 rfl (by decide) mw_446 dX4_meet_70 (fun v11 _ => ?_)
        refine mg_iload_n (pc := 73) hC 4 dX4_meet_73 rfl ?_
        refine mg_lald (pc := 74) hC dX4_meet_74 (fun v12 _ => ?_)
        refine mg_lstore (pc := 75) hC [(7, .long v12), (6, .int ((10 : Int32) + ((v6 / (v10.toInt32)) * v9))), (5, .int v9), (4, .int v6), (0, .ref x0), (1, .int x1), (2, .int x2), (3, .int x3)] dX4_meet_75 (by decide) rfl ?_
        refine mg_aload_n (pc := 77) hC 4 dX4_meet_77 rfl ?_
        refine mg_getNN (pc := 78) (ci := 4) (k := 1) hC mi_4 rfl (by decide) mw_446 dX4_meet_78 (fun v13 _ => ?_)
        refine mg_iload_n (pc := 81) hC 6 dX4_meet_81 rfl ?_
        refine mg_lald (pc := 82) hC dX4_meet_82 (fun v14 _ => ?_)
        refine mg_lstore (pc := 83) hC [(9, .long v14), (7, .long v12), (6, .int ((10 : Int32) + ((v6 / (v10.toInt32)) * v9))), (5, .int v9), (4, .int v6), (0, .ref x0), (1, .int x1), (2, .int x2), (3, .int x3)] dX4_meet_83 (by decide) rfl ?_
        refine mg_iconst (pc := 85) hC (1 : Int32) dX4_meet_85 (by decide) ?_
        refine mg_istore (pc := 86) hC [(11, .int (1 : Int32)), (9, .long v14), (7, .long v12), (6, .int ((10 : Int32) + ((v6 / (v10.toInt32)) * v9))), (5, .int v9), (4, .int v6), (0, .ref x0), (1, .int x1), (2, .int x2), (3, .int x3)] dX4_meet_86 (by decide) rfl ?_
        refine mg_iconst (pc := 88) hC (0 : Int32) dX4_meet_88 (by decide) ?_
        refine mg_istore (pc := 89) hC [(12, .int (0 : Int32)), (11, .int (1 : Int32)), (9, .long v14), (7, .long v12), (6, .int ((10 : Int32) + ((v6 / (v10.toInt32)) * v9))), (5, .int v9), (4, .int v6), (0, .ref x0), (1, .int x1), (2, .int x2), (3, .int x3)] dX4_meet_89 (by decide) rfl ?_
        exact mg_sub (pc := 91) [7, 8, 9, 10, 4, 3, 2, 1, 0] (L' := [(0, .ref x0), (1, .int x1), (2, .int x2), (3, .int x3), (6, .int ((10 : Int32) + ((v6 / (v10.toInt32)) * v9))), (7, .long v12), (9, .long v14), (11, .int (1 : Int32)), (12, .int (0 : Int32))]) rfl (gX4_meet_b91 hC _ _  _ _ _ _ _ _ _ _ _ _ _ _)
theorem wdX4_meet : mg_WdV 4 yX4_meet cX4_meet 15 (some .int) 3 := ⟨⟨mw_558, mw_2, by decide, by decide, by decide +kernel⟩, _, rfl, mw_556, mw_557⟩
def fX4_pairs_b42 (w : mg_H) (r18 : Nat → Int32 → Int32 → Int32 → Option (Int32)) (x0 : Nat) (x1 : Int32) (x3 : Int32) (s0 : Int32) (s1 : Int32) : Option (Int32) := r18 x0 x1 (s1 + s0) (x3 + (1 : Int32))
set_option maxHeartbeats 4000000 in
set_option maxRecDepth 100000 in
theorem gX4_pairs_b42 (hC : mg_Cx E p s m args meth c cX4_pairs 4 (some .int) RX4) (w : mg_H) (sz : Nat) (r18 : Nat → Int32 → Int32 → Int32 → Option (Int32)) (hr18 : ∀ (z0 : Nat) (z1 : Int32) (z2 : Int32) (z3 : Int32) (cells slots : Nat), mg_G E p l e ({ frames := 1, cells := C, slots := S, locals := 25 } : Room) s m args below meth c 4 (mg_oR mg_vI w) (r18 z0 z1 z2 z3) w sz cells slots 18 [(0, .ref z0), (1, .int z1), (2, .int z2), (3, .int z3)] []) (x0 : Nat) (x1 : Int32) (x3 : Int32) (s0 : Int32) (s1 : Int32) (cells slots : Nat) : mg_G E p l e ({ frames := 1, cells := C, slots := S, locals := 25 } : Room) s m args below meth c 4 (mg_oR mg_vI w) (fX4_pairs_b42 w r18 x0 x1 x3 s0 s1) w sz cells slots 42 [(0, .ref x0), (1, .int x1), (3, .int x3)] [.int s0, .int s1] := by
  unfold fX4_pairs_b42
  refine mg_iadd (pc := 42) hC dX4_pairs_42 ?_
  refine mg_istore_n (pc := 43) hC [(2, .int (s1 + s0)), (0, .ref x0), (1, .int x1), (3, .int x3)] dX4_pairs_43 (by decide) rfl ?_
  refine mg_iinc (pc := 44) hC 3 (x3 + (1 : Int32)) [(3, .int (x3 + (1 : Int32))), (2, .int (s1 + s0)), (0, .ref x0), (1, .int x1)] dX4_pairs_44 rfl rfl (by decide) rfl ?_
  refine mg_goto (pc := 47) hC 18 dX4_pairs_47 (by decide) ?_
  exact mg_sub (pc := 18) [2, 3, 1, 0] (L' := [(0, .ref x0), (1, .int x1), (2, .int (s1 + s0)), (3, .int (x3 + (1 : Int32)))]) rfl (hr18 _ _ _ _ _ _)
def fX4_pairs_b18 (w : mg_H) : Nat → Nat → Int32 → Int32 → Int32 → Option (Int32)
  | 0, _, _, _, _ => none
  | n + 1, x0, x1, x2, x3 => (mg_gI w 4 x0 3).bind fun v1 => if v1 ≤ x3 then (some x2) else (mg_gN w 4 x0 4 fun v2 => (mg_ldI w 0 v2 x3).bind fun v3 => if v3 = x1 then (fX4_pairs_b42 w (fX4_pairs_b18 w n) x0 x1 x3 (1 : Int32) x2) else (fX4_pairs_b42 w (fX4_pairs_b18 w n) x0 x1 x3 (0 : Int32) x2))
set_option maxHeartbeats 4000000 in
set_option maxRecDepth 100000 in
theorem gX4_pairs_b18 (hC : mg_Cx E p s m args meth c cX4_pairs 4 (some .int) RX4) (w : mg_H) (sz : Nat) : ∀ (n : Nat) (x0 : Nat) (x1 : Int32) (x2 : Int32) (x3 : Int32) (cells slots : Nat), mg_G E p l e ({ frames := 1, cells := C, slots := S, locals := 25 } : Room) s m args below meth c 4 (mg_oR mg_vI w) (fX4_pairs_b18 w n x0 x1 x2 x3) w sz cells slots 18 [(0, .ref x0), (1, .int x1), (2, .int x2), (3, .int x3)] [] := by
  intro n
  induction n with
  | zero => intros; exact fun o hf => by rw [fX4_pairs_b18] at hf; cases hf
  | succ n ih =>
    intro x0 x1 x2 x3 cells slots
    rw [fX4_pairs_b18]
    refine mg_iload_n (pc := 18) hC 3 dX4_pairs_18 rfl ?_
    refine mg_aload_n (pc := 19) hC 0 dX4_pairs_19 rfl ?_
    refine mg_getI (pc := 20) (ci := 4) (k := 3) hC mi_4 rfl (by decide) mw_448 dX4_pairs_20 (fun v1 _ => ?_)
    refine mg_icmp_ge (pc := 23) hC 50 dX4_pairs_23 (by decide) (fun _ => ?_) (fun _ => ?_)
    · refine mg_iload_n (pc := 50) hC 2 dX4_pairs_50 rfl ?_
      exact mg_iret (pc := 51) hC rfl dX4_pairs_51
    · refine mg_iload_n (pc := 26) hC 2 dX4_pairs_26 rfl ?_
      refine mg_aload_n (pc := 27) hC 0 dX4_pairs_27 rfl ?_
      refine mg_getNN (pc := 28) (ci := 4) (k := 4) hC mi_4 rfl (by decide) mw_449 dX4_pairs_28 (fun v2 _ => ?_)
      refine mg_iload_n (pc := 31) hC 3 dX4_pairs_31 rfl ?_
      refine mg_iald (pc := 32) hC dX4_pairs_32 (fun v3 _ => ?_)
      refine mg_iload_n (pc := 33) hC 1 dX4_pairs_33 rfl ?_
      refine mg_icmp_ne (pc := 34) hC 41 dX4_pairs_34 (by decide) (fun _ => ?_) (fun _ => ?_)
      · refine mg_iconst (pc := 37) hC (1 : Int32) dX4_pairs_37 (by decide) ?_
        refine mg_goto (pc := 38) hC 42 dX4_pairs_38 (by decide) ?_
        exact mg_sub (pc := 42) [0, 1, 3] (L' := [(0, .ref x0), (1, .int x1), (3, .int x3)]) rfl (gX4_pairs_b42 hC _ _ _ ih _ _ _ _ _ _ _)
      · refine mg_iconst (pc := 41) hC (0 : Int32) dX4_pairs_41 (by decide) ?_
        exact mg_sub (pc := 42) [0, 1, 3] (L' := [(0, .ref x0), (1, .int x1), (3, .int x3)]) rfl (gX4_pairs_b42 hC _ _ _ ih _ _ _ _ _ _ _)
def fX4_pairs (x0 : Nat) (x1 : Int32) (w : mg_H) : Option (Int32) := (fX4_in (x1.toInt64) (1 : Int64) (8 : Int64)).bind fun v1 => if v1 = 0 then (some (-1 : Int32)) else (fX4_pairs_b18 w mg_N x0 x1 (0 : Int32) (0 : Int32))
set_option maxHeartbeats 4000000 in
set_option maxRecDepth 100000 in
theorem kX4_pairs {E : mg_P} {l : Launch} {x0 : Nat} {x1 : Int32} {w : mg_H} {sz : Nat} {o : Int32} (hf : fX4_pairs x0 x1 w = some o) : mg_C E l yX4_pairs cX4_pairs 4 (some .int) 1 25 [.ref x0, .int x1] w sz ((mg_oR mg_vI w) o) := by
  refine mg_meth (out := (mg_oR mg_vI w)) (by decide) (Nat.le_of_ble_eq_true rfl) hf ?_
  intro p e C S s m below meth c hC hin
  have hC : mg_Cx E p s m _ meth c cX4_pairs 4 (some .int) RX4 := hC
  unfold fX4_pairs
  refine mg_sub (pc := 0) [0, 1] (L' := [(0, .ref x0), (1, .int x1)]) rfl ?_
  refine mg_iload_n (pc := 0) hC 1 dX4_pairs_0 rfl ?_
  refine mg_i2l (pc := 1) hC dX4_pairs_1 ?_
  refine mg_lconst (pc := 2) hC (1 : Int64) dX4_pairs_2 (by decide) ?_
  refine mg_ldc2 (pc := 3) hC (8 : Int64) dX4_pairs_3 mw_563 ?_
  refine mg_cRI (pc := 6) (fun r hr => mg_S (rest := []) hC wdX4_in mw_426 mw_425 dX4_pairs_6 rfl rfl ⟨Nat.le_of_ble_eq_true rfl, Nat.le_of_ble_eq_true rfl⟩ (Nat.le_of_ble_eq_true rfl) (kX4_in hr)) (fun v1 _ => ?_)
  refine mg_if_ne (pc := 9) hC 14 dX4_pairs_9 (by decide) (fun _ => ?_) (fun _ => ?_)
  · refine mg_iconst (pc := 12) hC (-1 : Int32) dX4_pairs_12 (by decide) ?_
    exact mg_iret (pc := 13) hC rfl dX4_pairs_13
  · refine mg_iconst (pc := 14) hC (0 : Int32) dX4_pairs_14 (by decide) ?_
    refine mg_istore_n (pc := 15) hC [(2, .int (0 : Int32)), (0, .ref x0), (1, .int x1)] dX4_pairs_15 (by decide) rfl ?_
    refine mg_iconst (pc := 16) hC (0 : Int32) dX4_pairs_16 (by decide) ?_
    refine mg_istore_n (pc := 17) hC [(3, .int (0 : Int32)), (2, .int (0 : Int32)), (0, .ref x0), (1, .int x1)] dX4_pairs_17 (by decide) rfl ?_
    exact mg_sub (pc := 18) [2, 3, 1, 0] (L' := [(0, .ref x0), (1, .int x1), (2, .int (0 : Int32)), (3, .int (0 : Int32))]) rfl (gX4_pairs_b18 hC _ _  _ _ _ _ _ _ _)
theorem wdX4_pairs : mg_WdV 4 yX4_pairs cX4_pairs 4 (some .int) 1 := ⟨⟨mw_562, mw_2, by decide, by decide, by decide +kernel⟩, _, rfl, mw_560, mw_561⟩
def fX4_firstOf_b2 (w : mg_H) : Nat → Nat → Int32 → Int32 → Option (Int32)
  | 0, _, _, _ => none
  | n + 1, x0, x1, x2 => mg_gN w 4 x0 4 fun v1 => (mg_ldI w 0 v1 x2).bind fun v2 => if x1 ≤ v2 then (some x2) else (fX4_firstOf_b2 w n x0 x1 (x2 + (1 : Int32)))
set_option maxHeartbeats 4000000 in
set_option maxRecDepth 100000 in
theorem gX4_firstOf_b2 (hC : mg_Cx E p s m args meth c cX4_firstOf 3 (some .int) RX4) (w : mg_H) (sz : Nat) : ∀ (n : Nat) (x0 : Nat) (x1 : Int32) (x2 : Int32) (cells slots : Nat), mg_G E p l e ({ frames := 0, cells := C, slots := S, locals := 0 } : Room) s m args below meth c 3 (mg_oR mg_vI w) (fX4_firstOf_b2 w n x0 x1 x2) w sz cells slots 2 [(0, .ref x0), (1, .int x1), (2, .int x2)] [] := by
  intro n
  induction n with
  | zero => intros; exact fun o hf => by rw [fX4_firstOf_b2] at hf; cases hf
  | succ n ih =>
    intro x0 x1 x2 cells slots
    rw [fX4_firstOf_b2]
    refine mg_aload_n (pc := 2) hC 0 dX4_firstOf_2 rfl ?_
    refine mg_getNN (pc := 3) (ci := 4) (k := 4) hC mi_4 rfl (by decide) mw_449 dX4_firstOf_3 (fun v1 _ => ?_)
    refine mg_iload_n (pc := 6) hC 2 dX4_firstOf_6 rfl ?_
    refine mg_iald (pc := 7) hC dX4_firstOf_7 (fun v2 _ => ?_)
    refine mg_iload_n (pc := 8) hC 1 dX4_firstOf_8 rfl ?_
    refine mg_icmp_ge (pc := 9) hC 18 dX4_firstOf_9 (by decide) (fun _ => ?_) (fun _ => ?_)
    · refine mg_iload_n (pc := 18) hC 2 dX4_firstOf_18 rfl ?_
      exact mg_iret (pc := 19) hC rfl dX4_firstOf_19
    · refine mg_iinc (pc := 12) hC 2 (x2 + (1 : Int32)) [(2, .int (x2 + (1 : Int32))), (0, .ref x0), (1, .int x1)] dX4_firstOf_12 rfl rfl (by decide) rfl ?_
      refine mg_goto (pc := 15) hC 2 dX4_firstOf_15 (by decide) ?_
      exact mg_sub (pc := 2) [1, 2, 0] (L' := [(0, .ref x0), (1, .int x1), (2, .int (x2 + (1 : Int32)))]) rfl (ih _ _ _ _ _)
def fX4_firstOf (x0 : Nat) (x1 : Int32) (w : mg_H) : Option (Int32) := fX4_firstOf_b2 w mg_N x0 x1 (0 : Int32)
set_option maxHeartbeats 4000000 in
set_option maxRecDepth 100000 in
theorem kX4_firstOf {E : mg_P} {l : Launch} {x0 : Nat} {x1 : Int32} {w : mg_H} {sz : Nat} {o : Int32} (hf : fX4_firstOf x0 x1 w = some o) : mg_C E l yX4_firstOf cX4_firstOf 3 (some .int) 0 0 [.ref x0, .int x1] w sz ((mg_oR mg_vI w) o) := by
  refine mg_meth (out := (mg_oR mg_vI w)) (by decide) (Nat.le_of_ble_eq_true rfl) hf ?_
  intro p e C S s m below meth c hC hin
  have hC : mg_Cx E p s m _ meth c cX4_firstOf 3 (some .int) RX4 := hC
  unfold fX4_firstOf
  refine mg_sub (pc := 0) [0, 1] (L' := [(0, .ref x0), (1, .int x1)]) rfl ?_
  refine mg_iconst (pc := 0) hC (0 : Int32) dX4_firstOf_0 (by decide) ?_
  refine mg_istore_n (pc := 1) hC [(2, .int (0 : Int32)), (0, .ref x0), (1, .int x1)] dX4_firstOf_1 (by decide) rfl ?_
  exact mg_sub (pc := 2) [1, 2, 0] (L' := [(0, .ref x0), (1, .int x1), (2, .int (0 : Int32))]) rfl (gX4_firstOf_b2 hC _ _  _ _ _ _ _ _)
theorem wdX4_firstOf : mg_WdV 4 yX4_firstOf cX4_firstOf 3 (some .int) 1 := ⟨⟨mw_572, mw_2, by decide, by decide, by decide +kernel⟩, _, rfl, mw_571, mw_p28⟩
def fX4_pair (x0 : Nat) (x1 : Int32) (x2 : Int32) (x3 : Int32) (w : mg_H) : Option (Int32) := (fX4_in (x1.toInt64) (1 : Int64) (8 : Int64)).bind fun v1 => if v1 = 0 then (some (-1 : Int32)) else (if x2 < 0 then (some (-1 : Int32)) else ((fX4_in (x3.toInt64) (0 : Int64) (1 : Int64)).bind fun v2 => if v2 = 0 then (some (-1 : Int32)) else (mg_rc w 4 x0 ((fX4_pairs x0 x1 w).bind fun v3 => if x2 < v3 then (mg_rc w 4 x0 ((fX4_firstOf x0 x1 w).bind fun v4 => if x3 = 0 then (mg_gN w 4 x0 5 fun v5 => (mg_ldL w v5 (v4 + x2)).bind fun v6 => some (v6.toInt32)) else (mg_gN w 4 x0 6 fun v7 => (mg_ldL w v7 (v4 + x2)).bind fun v8 => some (v8.toInt32)))) else (some (-4 : Int32))))))
set_option maxHeartbeats 4000000 in
set_option maxRecDepth 100000 in
theorem kX4_pair {E : mg_P} {l : Launch} {x0 : Nat} {x1 : Int32} {x2 : Int32} {x3 : Int32} {w : mg_H} {sz : Nat} {o : Int32} (hf : fX4_pair x0 x1 x2 x3 w = some o) : mg_C E l yX4_pair cX4_pair 5 (some .int) 2 48 [.ref x0, .int x1, .int x2, .int x3] w sz ((mg_oR mg_vI w) o) := by
  refine mg_meth (out := (mg_oR mg_vI w)) (by decide) (Nat.le_of_ble_eq_true rfl) hf ?_
  intro p e C S s m below meth c hC hin
  have hC : mg_Cx E p s m _ meth c cX4_pair 5 (some .int) RX4 := hC
  unfold fX4_pair
  refine mg_sub (pc := 0) [0, 1, 2, 3] (L' := [(0, .ref x0), (1, .int x1), (2, .int x2), (3, .int x3)]) rfl ?_
  refine mg_iload_n (pc := 0) hC 1 dX4_pair_0 rfl ?_
  refine mg_i2l (pc := 1) hC dX4_pair_1 ?_
  refine mg_lconst (pc := 2) hC (1 : Int64) dX4_pair_2 (by decide) ?_
  refine mg_ldc2 (pc := 3) hC (8 : Int64) dX4_pair_3 mw_563 ?_
  refine mg_cRI (pc := 6) (fun r hr => mg_S (rest := []) hC wdX4_in mw_426 mw_425 dX4_pair_6 rfl rfl ⟨Nat.le_of_ble_eq_true rfl, Nat.le_of_ble_eq_true rfl⟩ (Nat.le_of_ble_eq_true rfl) (kX4_in hr)) (fun v1 _ => ?_)
  refine mg_if_eq (pc := 9) hC 26 dX4_pair_9 (by decide) (fun _ => ?_) (fun _ => ?_)
  · refine mg_iconst (pc := 26) hC (-1 : Int32) dX4_pair_26 (by decide) ?_
    exact mg_iret (pc := 27) hC rfl dX4_pair_27
  · refine mg_iload_n (pc := 12) hC 2 dX4_pair_12 rfl ?_
    refine mg_if_lt (pc := 13) hC 26 dX4_pair_13 (by decide) (fun _ => ?_) (fun _ => ?_)
    · refine mg_iconst (pc := 26) hC (-1 : Int32) dX4_pair_26 (by decide) ?_
      exact mg_iret (pc := 27) hC rfl dX4_pair_27
    · refine mg_iload_n (pc := 16) hC 3 dX4_pair_16 rfl ?_
      refine mg_i2l (pc := 17) hC dX4_pair_17 ?_
      refine mg_lconst (pc := 18) hC (0 : Int64) dX4_pair_18 (by decide) ?_
      refine mg_lconst (pc := 19) hC (1 : Int64) dX4_pair_19 (by decide) ?_
      refine mg_cRI (pc := 20) (fun r hr => mg_S (rest := []) hC wdX4_in mw_426 mw_425 dX4_pair_20 rfl rfl ⟨Nat.le_of_ble_eq_true rfl, Nat.le_of_ble_eq_true rfl⟩ (Nat.le_of_ble_eq_true rfl) (kX4_in hr)) (fun v2 _ => ?_)
      refine mg_if_ne (pc := 23) hC 28 dX4_pair_23 (by decide) (fun _ => ?_) (fun _ => ?_)
      · refine mg_iconst (pc := 26) hC (-1 : Int32) dX4_pair_26 (by decide) ?_
        exact mg_iret (pc := 27) hC rfl dX4_pair_27
      · refine mg_iload_n (pc := 28) hC 2 dX4_pair_28 rfl ?_
        refine mg_aload_n (pc := 29) hC 0 dX4_pair_29 rfl ?_
        refine mg_iload_n (pc := 30) hC 1 dX4_pair_30 rfl ?_
        refine mg_recv (ci := 4) (fun hb => ?_)
        refine mg_cRI (pc := 31) (fun r hr => mg_VR (rest := [.int x2]) (av := [.int x1]) (ci := 4) hC wdX4_pairs mw_568 dX4_pair_31 rfl rfl ⟨Nat.le_of_ble_eq_true rfl, Nat.le_of_ble_eq_true rfl⟩ (Nat.le_of_ble_eq_true rfl) hb (kX4_pairs hr)) (fun v3 _ => ?_)
        refine mg_icmp_lt (pc := 34) hC 40 dX4_pair_34 (by decide) (fun _ => ?_) (fun _ => ?_)
        · refine mg_aload_n (pc := 40) hC 0 dX4_pair_40 rfl ?_
          refine mg_iload_n (pc := 41) hC 1 dX4_pair_41 rfl ?_
          refine mg_recv (ci := 4) (fun hb => ?_)
          refine mg_cRI (pc := 42) (fun r hr => mg_VR (rest := []) (av := [.int x1]) (ci := 4) hC wdX4_firstOf mw_569 dX4_pair_42 rfl rfl ⟨Nat.le_of_ble_eq_true rfl, Nat.le_of_ble_eq_true rfl⟩ (Nat.le_of_ble_eq_true rfl) hb (kX4_firstOf hr)) (fun v4 _ => ?_)
          refine mg_iload_n (pc := 45) hC 2 dX4_pair_45 rfl ?_
          refine mg_iadd (pc := 46) hC dX4_pair_46 ?_
          refine mg_istore (pc := 47) hC [(4, .int (v4 + x2)), (0, .ref x0), (1, .int x1), (2, .int x2), (3, .int x3)] dX4_pair_47 (by decide) rfl ?_
          refine mg_iload_n (pc := 49) hC 4 dX4_pair_49 rfl ?_
          refine mg_if_ne (pc := 50) hC 63 dX4_pair_50 (by decide) (fun _ => ?_) (fun _ => ?_)
          · refine mg_aload_n (pc := 53) hC 1 dX4_pair_53 rfl ?_
            refine mg_getNN (pc := 54) (ci := 4) (k := 5) hC mi_4 rfl (by decide) mw_450 dX4_pair_54 (fun v5 _ => ?_)
            refine mg_iload (pc := 57) hC 0 dX4_pair_57 rfl ?_
            refine mg_lald (pc := 59) hC dX4_pair_59 (fun v6 _ => ?_)
            refine mg_goto (pc := 60) hC 70 dX4_pair_60 (by decide) ?_
            refine mg_l2i (pc := 70) hC dX4_pair_70 ?_
            exact mg_iret (pc := 71) hC rfl dX4_pair_71
          · refine mg_aload_n (pc := 63) hC 1 dX4_pair_63 rfl ?_
            refine mg_getNN (pc := 64) (ci := 4) (k := 6) hC mi_4 rfl (by decide) mw_451 dX4_pair_64 (fun v7 _ => ?_)
            refine mg_iload (pc := 67) hC 0 dX4_pair_67 rfl ?_
            refine mg_lald (pc := 69) hC dX4_pair_69 (fun v8 _ => ?_)
            refine mg_l2i (pc := 70) hC dX4_pair_70 ?_
            exact mg_iret (pc := 71) hC rfl dX4_pair_71
        · refine mg_bipush (pc := 37) hC (-4 : Int32) dX4_pair_37 (by decide) ?_
          exact mg_iret (pc := 39) hC rfl dX4_pair_39
theorem wdX4_pair : mg_WdV 4 yX4_pair cX4_pair 5 (some .int) 3 := ⟨⟨mw_567, mw_2, by decide, by decide, by decide +kernel⟩, _, rfl, mw_565, mw_566⟩
end MG09
