section MG10
variable {E : mg_P} {p : Program} {l : Launch} {e : Env} {C S : Nat} {s : State} {m : MethodId} {args : Array Value} {below : List Frame} {meth : Method} {c : Code}
def fX4_pairOf_b87 (w : mg_H) (r52 : Nat → Int32 → Int64 → Int32 → Option (Int32)) (x0 : Nat) (x2 : Int32) (x3 : Int64) (x5 : Int32) : Option (Int32) := r52 x0 x2 x3 (x5 + (1 : Int32))
set_option maxHeartbeats 4000000 in
set_option maxRecDepth 100000 in
theorem gX4_pairOf_b87 (hC : mg_Cx E p s m args meth c cX4_pairOf 6 (some .int) RX4) (w : mg_H) (sz : Nat) (r52 : Nat → Int32 → Int64 → Int32 → Option (Int32)) (hr52 : ∀ (z0 : Nat) (z2 : Int32) (z3 : Int64) (z5 : Int32) (cells slots : Nat), mg_G E p l e ({ frames := 1, cells := C, slots := S, locals := 26 } : Room) s m args below meth c 6 (mg_oR mg_vI w) (r52 z0 z2 z3 z5) w sz cells slots 52 [(0, .ref z0), (2, .int z2), (3, .long z3), (5, .int z5)] []) (x0 : Nat) (x2 : Int32) (x3 : Int64) (x5 : Int32) (cells slots : Nat) : mg_G E p l e ({ frames := 1, cells := C, slots := S, locals := 26 } : Room) s m args below meth c 6 (mg_oR mg_vI w) (fX4_pairOf_b87 w r52 x0 x2 x3 x5) w sz cells slots 87 [(0, .ref x0), (2, .int x2), (3, .long x3), (5, .int x5)] [] := by
  unfold fX4_pairOf_b87
  refine mg_iinc (pc := 87) hC 3 (x5 + (1 : Int32)) [(5, .int (x5 + (1 : Int32))), (0, .ref x0), (2, .int x2), (3, .long x3)] dX4_pairOf_87 rfl rfl (by decide) rfl ?_
  refine mg_goto (pc := 90) hC 52 dX4_pairOf_90 (by decide) ?_
  exact mg_sub (pc := 52) [1, 2, 3, 0] (L' := [(0, .ref x0), (2, .int x2), (3, .long x3), (5, .int (x5 + (1 : Int32)))]) rfl (hr52 _ _ _ _ _ _)
def fX4_pairOf_b52 (w : mg_H) : Nat → Nat → Int32 → Int64 → Int32 → Option (Int32)
  | 0, _, _, _, _ => none
  | n + 1, x0, x2, x3, x5 => mg_gN w 4 x0 4 fun v1 => (mg_ldI w 0 v1 x5).bind fun v2 => if v2 = x2 then (mg_gN w 4 x0 5 fun v3 => (mg_ldL w v3 x5).bind fun v4 => if (lg_cmp v4 x3) = 0 then (some x5) else (mg_gN w 4 x0 6 fun v5 => (mg_ldL w v5 x5).bind fun v6 => if (lg_cmp v6 x3) = 0 then (some x5) else (fX4_pairOf_b87 w (fX4_pairOf_b52 w n) x0 x2 x3 x5))) else (fX4_pairOf_b87 w (fX4_pairOf_b52 w n) x0 x2 x3 x5)
set_option maxHeartbeats 4000000 in
set_option maxRecDepth 100000 in
theorem gX4_pairOf_b52 (hC : mg_Cx E p s m args meth c cX4_pairOf 6 (some .int) RX4) (w : mg_H) (sz : Nat) : ∀ (n : Nat) (x0 : Nat) (x2 : Int32) (x3 : Int64) (x5 : Int32) (cells slots : Nat), mg_G E p l e ({ frames := 1, cells := C, slots := S, locals := 26 } : Room) s m args below meth c 6 (mg_oR mg_vI w) (fX4_pairOf_b52 w n x0 x2 x3 x5) w sz cells slots 52 [(0, .ref x0), (2, .int x2), (3, .long x3), (5, .int x5)] [] := by
  intro n
  induction n with
  | zero => intros; exact fun o hf => by rw [fX4_pairOf_b52] at hf; cases hf
  | succ n ih =>
    intro x0 x2 x3 x5 cells slots
    rw [fX4_pairOf_b52]
    refine mg_aload_n (pc := 52) hC 0 dX4_pairOf_52 rfl ?_
    refine mg_getNN (pc := 53) (ci := 4) (k := 4) hC mi_4 rfl (by decide) mw_449 dX4_pairOf_53 (fun v1 _ => ?_)
    refine mg_iload (pc := 56) hC 3 dX4_pairOf_56 rfl ?_
    refine mg_iald (pc := 58) hC dX4_pairOf_58 (fun v2 _ => ?_)
    refine mg_iload_n (pc := 59) hC 1 dX4_pairOf_59 rfl ?_
    refine mg_icmp_ne (pc := 60) hC 87 dX4_pairOf_60 (by decide) (fun _ => ?_) (fun _ => ?_)
    · refine mg_aload_n (pc := 63) hC 0 dX4_pairOf_63 rfl ?_
      refine mg_getNN (pc := 64) (ci := 4) (k := 5) hC mi_4 rfl (by decide) mw_450 dX4_pairOf_64 (fun v3 _ => ?_)
      refine mg_iload (pc := 67) hC 3 dX4_pairOf_67 rfl ?_
      refine mg_lald (pc := 69) hC dX4_pairOf_69 (fun v4 _ => ?_)
      refine mg_lload_n (pc := 70) hC 2 dX4_pairOf_70 rfl ?_
      refine mg_lcmp (pc := 71) hC dX4_pairOf_71 ?_
      refine mg_if_eq (pc := 72) hC 93 dX4_pairOf_72 (by decide) (fun _ => ?_) (fun _ => ?_)
      · refine mg_iload (pc := 93) hC 3 dX4_pairOf_93 rfl ?_
        exact mg_iret (pc := 95) hC rfl dX4_pairOf_95
      · refine mg_aload_n (pc := 75) hC 0 dX4_pairOf_75 rfl ?_
        refine mg_getNN (pc := 76) (ci := 4) (k := 6) hC mi_4 rfl (by decide) mw_451 dX4_pairOf_76 (fun v5 _ => ?_)
        refine mg_iload (pc := 79) hC 3 dX4_pairOf_79 rfl ?_
        refine mg_lald (pc := 81) hC dX4_pairOf_81 (fun v6 _ => ?_)
        refine mg_lload_n (pc := 82) hC 2 dX4_pairOf_82 rfl ?_
        refine mg_lcmp (pc := 83) hC dX4_pairOf_83 ?_
        refine mg_if_eq (pc := 84) hC 93 dX4_pairOf_84 (by decide) (fun _ => ?_) (fun _ => ?_)
        · refine mg_iload (pc := 93) hC 3 dX4_pairOf_93 rfl ?_
          exact mg_iret (pc := 95) hC rfl dX4_pairOf_95
        · exact mg_sub (pc := 87) [0, 1, 2, 3] (L' := [(0, .ref x0), (2, .int x2), (3, .long x3), (5, .int x5)]) rfl (gX4_pairOf_b87 hC _ _ _ ih _ _ _ _ _ _)
    · exact mg_sub (pc := 87) [0, 1, 2, 3] (L' := [(0, .ref x0), (2, .int x2), (3, .long x3), (5, .int x5)]) rfl (gX4_pairOf_b87 hC _ _ _ ih _ _ _ _ _ _)
def fX4_pairOf (x0 : Nat) (x1 : Int32) (w : mg_H) : Option (Int32) := mg_rc w 4 x0 ((fX4_isBack x0 x1 w).bind fun v1 => if v1 = 0 then (some (-4 : Int32)) else (mg_gN w 4 x0 2 fun v2 => (mg_ldL w v2 x1).bind fun v3 => (fX4_lengthOf v3).bind fun v4 => if v4 ≤ (8 : Int32) then (mg_gN w 4 x0 1 fun v5 => (mg_ldL w v5 x1).bind fun v6 => (fX4_whole v4).bind fun v7 => mg_gN w 4 x0 2 fun v8 => (mg_ldL w v8 x1).bind fun v9 => if v9 = 0 then none else (fX4_pairOf_b52 w mg_N x0 v4 (v6 * (v7 / v9)) (0 : Int32))) else (some (-4 : Int32))))
set_option maxHeartbeats 4000000 in
set_option maxRecDepth 100000 in
theorem kX4_pairOf {E : mg_P} {l : Launch} {x0 : Nat} {x1 : Int32} {w : mg_H} {sz : Nat} {o : Int32} (hf : fX4_pairOf x0 x1 w = some o) : mg_C E l yX4_pairOf cX4_pairOf 6 (some .int) 1 26 [.ref x0, .int x1] w sz ((mg_oR mg_vI w) o) := by
  refine mg_meth (out := (mg_oR mg_vI w)) (by decide) (Nat.le_of_ble_eq_true rfl) hf ?_
  intro p e C S s m below meth c hC hin
  have hC : mg_Cx E p s m _ meth c cX4_pairOf 6 (some .int) RX4 := hC
  unfold fX4_pairOf
  refine mg_sub (pc := 0) [0, 1] (L' := [(0, .ref x0), (1, .int x1)]) rfl ?_
  refine mg_aload_n (pc := 0) hC 0 dX4_pairOf_0 rfl ?_
  refine mg_iload_n (pc := 1) hC 1 dX4_pairOf_1 rfl ?_
  refine mg_recv (ci := 4) (fun hb => ?_)
  refine mg_cRI (pc := 2) (fun r hr => mg_VR (rest := []) (av := [.int x1]) (ci := 4) hC wdX4_isBack mw_535 dX4_pairOf_2 rfl rfl ⟨Nat.le_of_ble_eq_true rfl, Nat.le_of_ble_eq_true rfl⟩ (Nat.le_of_ble_eq_true rfl) hb (kX4_isBack hr)) (fun v1 _ => ?_)
  refine mg_if_ne (pc := 5) hC 11 dX4_pairOf_5 (by decide) (fun _ => ?_) (fun _ => ?_)
  · refine mg_bipush (pc := 8) hC (-4 : Int32) dX4_pairOf_8 (by decide) ?_
    exact mg_iret (pc := 10) hC rfl dX4_pairOf_10
  · refine mg_aload_n (pc := 11) hC 0 dX4_pairOf_11 rfl ?_
    refine mg_getNN (pc := 12) (ci := 4) (k := 2) hC mi_4 rfl (by decide) mw_447 dX4_pairOf_12 (fun v2 _ => ?_)
    refine mg_iload_n (pc := 15) hC 1 dX4_pairOf_15 rfl ?_
    refine mg_lald (pc := 16) hC dX4_pairOf_16 (fun v3 _ => ?_)
    refine mg_cRI (pc := 17) (fun r hr => mg_S (rest := []) hC wdX4_lengthOf mw_435 mw_434 dX4_pairOf_17 rfl rfl ⟨Nat.le_of_ble_eq_true rfl, Nat.le_of_ble_eq_true rfl⟩ (Nat.le_of_ble_eq_true rfl) (kX4_lengthOf hr)) (fun v4 _ => ?_)
    refine mg_istore_n (pc := 20) hC [(2, .int v4), (0, .ref x0), (1, .int x1)] dX4_pairOf_20 (by decide) rfl ?_
    refine mg_iload_n (pc := 21) hC 0 dX4_pairOf_21 rfl ?_
    refine mg_bipush (pc := 22) hC (8 : Int32) dX4_pairOf_22 (by decide) ?_
    refine mg_icmp_le (pc := 24) hC 30 dX4_pairOf_24 (by decide) (fun _ => ?_) (fun _ => ?_)
    · refine mg_aload_n (pc := 30) hC 1 dX4_pairOf_30 rfl ?_
      refine mg_getNN (pc := 31) (ci := 4) (k := 1) hC mi_4 rfl (by decide) mw_446 dX4_pairOf_31 (fun v5 _ => ?_)
      refine mg_iload_n (pc := 34) hC 2 dX4_pairOf_34 rfl ?_
      refine mg_lald (pc := 35) hC dX4_pairOf_35 (fun v6 _ => ?_)
      refine mg_iload_n (pc := 36) hC 0 dX4_pairOf_36 rfl ?_
      refine mg_cRL (pc := 37) (fun r hr => mg_S (rest := [.long v6]) hC wdX4_whole mw_423 mw_422 dX4_pairOf_37 rfl rfl ⟨Nat.le_of_ble_eq_true rfl, Nat.le_of_ble_eq_true rfl⟩ (Nat.le_of_ble_eq_true rfl) (kX4_whole hr)) (fun v7 _ => ?_)
      refine mg_aload_n (pc := 40) hC 1 dX4_pairOf_40 rfl ?_
      refine mg_getNN (pc := 41) (ci := 4) (k := 2) hC mi_4 rfl (by decide) mw_447 dX4_pairOf_41 (fun v8 _ => ?_)
      refine mg_iload_n (pc := 44) hC 2 dX4_pairOf_44 rfl ?_
      refine mg_lald (pc := 45) hC dX4_pairOf_45 (fun v9 _ => ?_)
      refine mg_ldiv (pc := 46) hC dX4_pairOf_46 ?_
      refine mg_lmul (pc := 47) hC dX4_pairOf_47 ?_
      refine mg_lstore_n (pc := 48) hC [(3, .long (v6 * (v7 / v9))), (2, .int v4), (0, .ref x0), (1, .int x1)] dX4_pairOf_48 (by decide) rfl ?_
      refine mg_iconst (pc := 49) hC (0 : Int32) dX4_pairOf_49 (by decide) ?_
      refine mg_istore (pc := 50) hC [(5, .int (0 : Int32)), (3, .long (v6 * (v7 / v9))), (2, .int v4), (0, .ref x0), (1, .int x1)] dX4_pairOf_50 (by decide) rfl ?_
      exact mg_sub (pc := 52) [3, 2, 1, 0] (L' := [(0, .ref x0), (2, .int v4), (3, .long (v6 * (v7 / v9))), (5, .int (0 : Int32))]) rfl (gX4_pairOf_b52 hC _ _  _ _ _ _ _ _ _)
    · refine mg_bipush (pc := 27) hC (-4 : Int32) dX4_pairOf_27 (by decide) ?_
      exact mg_iret (pc := 29) hC rfl dX4_pairOf_29
theorem wdX4_pairOf : mg_WdV 4 yX4_pairOf cX4_pairOf 6 (some .int) 1 := ⟨⟨mw_580, mw_2, by decide, by decide, by decide +kernel⟩, _, rfl, mw_579, mw_p29⟩
def fX4_partner_b80 (x3 : Int64) (s0 : Int64) (s1 : Nat) (w : mg_H) : Option (Int32 × mg_H) := mg_rc w 4 s1 (mg_bS (fX4_comes s1 s0 x3 w) fun v1 w2 => some (v1, w2))
set_option maxHeartbeats 4000000 in
set_option maxRecDepth 100000 in
theorem gX4_partner_b80 (hC : mg_Cx E p s m args meth c cX4_partner 7 (some .int) RX4) (sz : Nat) (x3 : Int64) (s0 : Int64) (s1 : Nat) (w : mg_H) (cells slots : Nat) : mg_G E p l e ({ frames := 2, cells := C, slots := S, locals := 51 } : Room) s m args below meth c 7 (mg_oS mg_vI) (fX4_partner_b80 x3 s0 s1 w) w sz cells slots 80 [(3, .long x3)] [.long s0, .ref s1] := by
  unfold fX4_partner_b80
  refine mg_lload_n (pc := 80) hC 0 dX4_partner_80 rfl ?_
  refine mg_recv (ci := 4) (fun hb => ?_)
  refine mg_cSI (pc := 81) (fun r hr => mg_VR (rest := []) (av := [.long s0, .long x3]) (ci := 4) hC wdX4_comes mw_484 dX4_partner_81 rfl rfl ⟨Nat.le_of_ble_eq_true rfl, Nat.le_of_ble_eq_true rfl⟩ (Nat.le_of_ble_eq_true rfl) hb (kX4_comes hr)) (fun v1 w2 _ => ?_)
  exact mg_iret (pc := 84) hC rfl dX4_partner_84
def fX4_partner (x0 : Nat) (x1 : Int32) (w : mg_H) : Option (Int32 × mg_H) := mg_rc w 4 x0 ((fX4_isAngle x0 x1 w).bind fun v1 => if v1 = 0 then (some ((-1 : Int32), w)) else (mg_rc w 4 x0 ((fX4_pairOf x0 x1 w).bind fun v2 => if v2 = (-4 : Int32) then (some ((-2 : Int32), w)) else (mg_gN w 4 x0 4 fun v3 => (mg_ldI w 0 v3 v2).bind fun v4 => (fX4_whole v4).bind fun v5 => mg_gN w 4 x0 1 fun v6 => (mg_ldL w v6 x1).bind fun v7 => mg_gN w 4 x0 2 fun v8 => (mg_ldL w v8 x1).bind fun v9 => if v9 = 0 then none else (mg_gN w 4 x0 5 fun v10 => (mg_ldL w v10 v2).bind fun v11 => if (lg_cmp (v7 * (v5 / v9)) v11) = 0 then (mg_gN w 4 x0 6 fun v12 => (mg_ldL w v12 v2).bind fun v13 => fX4_partner_b80 v5 v13 x0 w) else (mg_gN w 4 x0 5 fun v14 => (mg_ldL w v14 v2).bind fun v15 => fX4_partner_b80 v5 v15 x0 w))))))
set_option maxHeartbeats 4000000 in
set_option maxRecDepth 100000 in
theorem kX4_partner {E : mg_P} {l : Launch} {x0 : Nat} {x1 : Int32} {w : mg_H} {sz : Nat} {o : Int32 × mg_H} (hf : fX4_partner x0 x1 w = some o) : mg_C E l yX4_partner cX4_partner 7 (some .int) 2 51 [.ref x0, .int x1] w sz ((mg_oS mg_vI) o) := by
  refine mg_meth (out := (mg_oS mg_vI)) (by decide) (Nat.le_of_ble_eq_true rfl) hf ?_
  intro p e C S s m below meth c hC hin
  have hC : mg_Cx E p s m _ meth c cX4_partner 7 (some .int) RX4 := hC
  unfold fX4_partner
  refine mg_sub (pc := 0) [0, 1] (L' := [(0, .ref x0), (1, .int x1)]) rfl ?_
  refine mg_aload_n (pc := 0) hC 0 dX4_partner_0 rfl ?_
  refine mg_iload_n (pc := 1) hC 1 dX4_partner_1 rfl ?_
  refine mg_recv (ci := 4) (fun hb => ?_)
  refine mg_cRI (pc := 2) (fun r hr => mg_VR (rest := []) (av := [.int x1]) (ci := 4) hC wdX4_isAngle mw_496 dX4_partner_2 rfl rfl ⟨Nat.le_of_ble_eq_true rfl, Nat.le_of_ble_eq_true rfl⟩ (Nat.le_of_ble_eq_true rfl) hb (kX4_isAngle hr)) (fun v1 _ => ?_)
  refine mg_if_ne (pc := 5) hC 10 dX4_partner_5 (by decide) (fun _ => ?_) (fun _ => ?_)
  · refine mg_iconst (pc := 8) hC (-1 : Int32) dX4_partner_8 (by decide) ?_
    exact mg_iret (pc := 9) hC rfl dX4_partner_9
  · refine mg_aload_n (pc := 10) hC 0 dX4_partner_10 rfl ?_
    refine mg_iload_n (pc := 11) hC 1 dX4_partner_11 rfl ?_
    refine mg_recv (ci := 4) (fun hb => ?_)
    refine mg_cRI (pc := 12) (fun r hr => mg_VR (rest := []) (av := [.int x1]) (ci := 4) hC wdX4_pairOf mw_577 dX4_partner_12 rfl rfl ⟨Nat.le_of_ble_eq_true rfl, Nat.le_of_ble_eq_true rfl⟩ (Nat.le_of_ble_eq_true rfl) hb (kX4_pairOf hr)) (fun v2 _ => ?_)
    refine mg_istore_n (pc := 15) hC [(2, .int v2), (0, .ref x0), (1, .int x1)] dX4_partner_15 (by decide) rfl ?_
    refine mg_iload_n (pc := 16) hC 0 dX4_partner_16 rfl ?_
    refine mg_bipush (pc := 17) hC (-4 : Int32) dX4_partner_17 (by decide) ?_
    refine mg_icmp_ne (pc := 19) hC 25 dX4_partner_19 (by decide) (fun _ => ?_) (fun _ => ?_)
    · refine mg_bipush (pc := 22) hC (-2 : Int32) dX4_partner_22 (by decide) ?_
      exact mg_iret (pc := 24) hC rfl dX4_partner_24
    · refine mg_aload_n (pc := 25) hC 1 dX4_partner_25 rfl ?_
      refine mg_getNN (pc := 26) (ci := 4) (k := 4) hC mi_4 rfl (by decide) mw_449 dX4_partner_26 (fun v3 _ => ?_)
      refine mg_iload_n (pc := 29) hC 0 dX4_partner_29 rfl ?_
      refine mg_iald (pc := 30) hC dX4_partner_30 (fun v4 _ => ?_)
      refine mg_cRL (pc := 31) (fun r hr => mg_S (rest := []) hC wdX4_whole mw_423 mw_422 dX4_partner_31 rfl rfl ⟨Nat.le_of_ble_eq_true rfl, Nat.le_of_ble_eq_true rfl⟩ (Nat.le_of_ble_eq_true rfl) (kX4_whole hr)) (fun v5 _ => ?_)
      refine mg_lstore_n (pc := 34) hC [(3, .long v5), (2, .int v2), (0, .ref x0), (1, .int x1)] dX4_partner_34 (by decide) rfl ?_
      refine mg_aload_n (pc := 35) hC 2 dX4_partner_35 rfl ?_
      refine mg_getNN (pc := 36) (ci := 4) (k := 1) hC mi_4 rfl (by decide) mw_446 dX4_partner_36 (fun v6 _ => ?_)
      refine mg_iload_n (pc := 39) hC 3 dX4_partner_39 rfl ?_
      refine mg_lald (pc := 40) hC dX4_partner_40 (fun v7 _ => ?_)
      refine mg_lload_n (pc := 41) hC 0 dX4_partner_41 rfl ?_
      refine mg_aload_n (pc := 42) hC 2 dX4_partner_42 rfl ?_
      refine mg_getNN (pc := 43) (ci := 4) (k := 2) hC mi_4 rfl (by decide) mw_447 dX4_partner_43 (fun v8 _ => ?_)
      refine mg_iload_n (pc := 46) hC 3 dX4_partner_46 rfl ?_
      refine mg_lald (pc := 47) hC dX4_partner_47 (fun v9 _ => ?_)
      refine mg_ldiv (pc := 48) hC dX4_partner_48 ?_
      refine mg_lmul (pc := 49) hC dX4_partner_49 ?_
      refine mg_lstore (pc := 50) hC [(5, .long (v7 * (v5 / v9))), (3, .long v5), (2, .int v2), (0, .ref x0), (1, .int x1)] dX4_partner_50 (by decide) rfl ?_
      refine mg_aload_n (pc := 52) hC 3 dX4_partner_52 rfl ?_
      refine mg_lload (pc := 53) hC 0 dX4_partner_53 rfl ?_
      refine mg_aload_n (pc := 55) hC 3 dX4_partner_55 rfl ?_
      refine mg_getNN (pc := 56) (ci := 4) (k := 5) hC mi_4 rfl (by decide) mw_450 dX4_partner_56 (fun v10 _ => ?_)
      refine mg_iload_n (pc := 59) hC 2 dX4_partner_59 rfl ?_
      refine mg_lald (pc := 60) hC dX4_partner_60 (fun v11 _ => ?_)
      refine mg_lcmp (pc := 61) hC dX4_partner_61 ?_
      refine mg_if_ne (pc := 62) hC 74 dX4_partner_62 (by decide) (fun _ => ?_) (fun _ => ?_)
      · refine mg_aload_n (pc := 65) hC 3 dX4_partner_65 rfl ?_
        refine mg_getNN (pc := 66) (ci := 4) (k := 6) hC mi_4 rfl (by decide) mw_451 dX4_partner_66 (fun v12 _ => ?_)
        refine mg_iload_n (pc := 69) hC 2 dX4_partner_69 rfl ?_
        refine mg_lald (pc := 70) hC dX4_partner_70 (fun v13 _ => ?_)
        refine mg_goto (pc := 71) hC 80 dX4_partner_71 (by decide) ?_
        exact mg_sub (pc := 80) [1] (L' := [(3, .long v5)]) rfl (gX4_partner_b80 hC _  _ _ _ _ _ _)
      · refine mg_aload_n (pc := 74) hC 3 dX4_partner_74 rfl ?_
        refine mg_getNN (pc := 75) (ci := 4) (k := 5) hC mi_4 rfl (by decide) mw_450 dX4_partner_75 (fun v14 _ => ?_)
        refine mg_iload_n (pc := 78) hC 2 dX4_partner_78 rfl ?_
        refine mg_lald (pc := 79) hC dX4_partner_79 (fun v15 _ => ?_)
        exact mg_sub (pc := 80) [1] (L' := [(3, .long v5)]) rfl (gX4_partner_b80 hC _  _ _ _ _ _ _)
theorem wdX4_partner : mg_WdV 4 yX4_partner cX4_partner 7 (some .int) 1 := ⟨⟨mw_576, mw_2, by decide, by decide, by decide +kernel⟩, _, rfl, mw_574, mw_575⟩
def fX4_holdsAngle (x0 : Nat) (x1 : Int32) (x2 : Int32) (w : mg_H) : Option (Int32) := mg_gN w 4 x0 4 fun v1 => (mg_ldI w 0 v1 x1).bind fun v2 => (fX4_whole v2).bind fun v3 => mg_gN w 4 x0 1 fun v4 => (mg_ldL w v4 x2).bind fun v5 => mg_gN w 4 x0 2 fun v6 => (mg_ldL w v6 x2).bind fun v7 => mg_gN w 4 x0 5 fun v8 => (mg_ldL w v8 x1).bind fun v9 => (fX4_isBelow v5 v7 v9 v3).bind fun v10 => if v10 = 0 then (mg_gN w 4 x0 6 fun v11 => (mg_ldL w v11 x1).bind fun v12 => mg_gN w 4 x0 1 fun v13 => (mg_ldL w v13 x2).bind fun v14 => mg_gN w 4 x0 2 fun v15 => (mg_ldL w v15 x2).bind fun v16 => (fX4_isBelow v12 v3 v14 v16).bind fun v17 => if v17 = 0 then (some (1 : Int32)) else (some (0 : Int32))) else (some (0 : Int32))
set_option maxHeartbeats 4000000 in
set_option maxRecDepth 100000 in
theorem kX4_holdsAngle {E : mg_P} {l : Launch} {x0 : Nat} {x1 : Int32} {x2 : Int32} {w : mg_H} {sz : Nat} {o : Int32} (hf : fX4_holdsAngle x0 x1 x2 w = some o) : mg_C E l yX4_holdsAngle cX4_holdsAngle 5 (some .boolean) 1 27 [.ref x0, .int x1, .int x2] w sz ((mg_oR mg_vI w) o) := by
  refine mg_meth (out := (mg_oR mg_vI w)) (by decide) (Nat.le_of_ble_eq_true rfl) hf ?_
  intro p e C S s m below meth c hC hin
  have hC : mg_Cx E p s m _ meth c cX4_holdsAngle 5 (some .boolean) RX4 := hC
  unfold fX4_holdsAngle
  refine mg_sub (pc := 0) [0, 1, 2] (L' := [(0, .ref x0), (1, .int x1), (2, .int x2)]) rfl ?_
  refine mg_aload_n (pc := 0) hC 0 dX4_holdsAngle_0 rfl ?_
  refine mg_getNN (pc := 1) (ci := 4) (k := 4) hC mi_4 rfl (by decide) mw_449 dX4_holdsAngle_1 (fun v1 _ => ?_)
  refine mg_iload_n (pc := 4) hC 1 dX4_holdsAngle_4 rfl ?_
  refine mg_iald (pc := 5) hC dX4_holdsAngle_5 (fun v2 _ => ?_)
  refine mg_cRL (pc := 6) (fun r hr => mg_S (rest := []) hC wdX4_whole mw_423 mw_422 dX4_holdsAngle_6 rfl rfl ⟨Nat.le_of_ble_eq_true rfl, Nat.le_of_ble_eq_true rfl⟩ (Nat.le_of_ble_eq_true rfl) (kX4_whole hr)) (fun v3 _ => ?_)
  refine mg_lstore_n (pc := 9) hC [(3, .long v3), (0, .ref x0), (1, .int x1), (2, .int x2)] dX4_holdsAngle_9 (by decide) rfl ?_
  refine mg_aload_n (pc := 10) hC 1 dX4_holdsAngle_10 rfl ?_
  refine mg_getNN (pc := 11) (ci := 4) (k := 1) hC mi_4 rfl (by decide) mw_446 dX4_holdsAngle_11 (fun v4 _ => ?_)
  refine mg_iload_n (pc := 14) hC 3 dX4_holdsAngle_14 rfl ?_
  refine mg_lald (pc := 15) hC dX4_holdsAngle_15 (fun v5 _ => ?_)
  refine mg_aload_n (pc := 16) hC 1 dX4_holdsAngle_16 rfl ?_
  refine mg_getNN (pc := 17) (ci := 4) (k := 2) hC mi_4 rfl (by decide) mw_447 dX4_holdsAngle_17 (fun v6 _ => ?_)
  refine mg_iload_n (pc := 20) hC 3 dX4_holdsAngle_20 rfl ?_
  refine mg_lald (pc := 21) hC dX4_holdsAngle_21 (fun v7 _ => ?_)
  refine mg_aload_n (pc := 22) hC 1 dX4_holdsAngle_22 rfl ?_
  refine mg_getNN (pc := 23) (ci := 4) (k := 5) hC mi_4 rfl (by decide) mw_450 dX4_holdsAngle_23 (fun v8 _ => ?_)
  refine mg_iload_n (pc := 26) hC 2 dX4_holdsAngle_26 rfl ?_
  refine mg_lald (pc := 27) hC dX4_holdsAngle_27 (fun v9 _ => ?_)
  refine mg_lload_n (pc := 28) hC 0 dX4_holdsAngle_28 rfl ?_
  refine mg_cRI (pc := 29) (fun r hr => mg_S (rest := []) hC wdX4_isBelow mw_443 mw_442 dX4_holdsAngle_29 rfl rfl ⟨Nat.le_of_ble_eq_true rfl, Nat.le_of_ble_eq_true rfl⟩ (Nat.le_of_ble_eq_true rfl) (kX4_isBelow hr)) (fun v10 _ => ?_)
  refine mg_if_ne (pc := 32) hC 64 dX4_holdsAngle_32 (by decide) (fun _ => ?_) (fun _ => ?_)
  · refine mg_aload_n (pc := 35) hC 1 dX4_holdsAngle_35 rfl ?_
    refine mg_getNN (pc := 36) (ci := 4) (k := 6) hC mi_4 rfl (by decide) mw_451 dX4_holdsAngle_36 (fun v11 _ => ?_)
    refine mg_iload_n (pc := 39) hC 2 dX4_holdsAngle_39 rfl ?_
    refine mg_lald (pc := 40) hC dX4_holdsAngle_40 (fun v12 _ => ?_)
    refine mg_lload_n (pc := 41) hC 0 dX4_holdsAngle_41 rfl ?_
    refine mg_aload_n (pc := 42) hC 1 dX4_holdsAngle_42 rfl ?_
    refine mg_getNN (pc := 43) (ci := 4) (k := 1) hC mi_4 rfl (by decide) mw_446 dX4_holdsAngle_43 (fun v13 _ => ?_)
    refine mg_iload_n (pc := 46) hC 3 dX4_holdsAngle_46 rfl ?_
    refine mg_lald (pc := 47) hC dX4_holdsAngle_47 (fun v14 _ => ?_)
    refine mg_aload_n (pc := 48) hC 1 dX4_holdsAngle_48 rfl ?_
    refine mg_getNN (pc := 49) (ci := 4) (k := 2) hC mi_4 rfl (by decide) mw_447 dX4_holdsAngle_49 (fun v15 _ => ?_)
    refine mg_iload_n (pc := 52) hC 3 dX4_holdsAngle_52 rfl ?_
    refine mg_lald (pc := 53) hC dX4_holdsAngle_53 (fun v16 _ => ?_)
    refine mg_cRI (pc := 54) (fun r hr => mg_S (rest := []) hC wdX4_isBelow mw_443 mw_442 dX4_holdsAngle_54 rfl rfl ⟨Nat.le_of_ble_eq_true rfl, Nat.le_of_ble_eq_true rfl⟩ (Nat.le_of_ble_eq_true rfl) (kX4_isBelow hr)) (fun v17 _ => ?_)
    refine mg_if_ne (pc := 57) hC 64 dX4_holdsAngle_57 (by decide) (fun _ => ?_) (fun _ => ?_)
    · refine mg_iconst (pc := 60) hC (1 : Int32) dX4_holdsAngle_60 (by decide) ?_
      refine mg_goto (pc := 61) hC 65 dX4_holdsAngle_61 (by decide) ?_
      exact mg_zretC (pc := 65) hC (by decide) rfl dX4_holdsAngle_65
    · refine mg_iconst (pc := 64) hC (0 : Int32) dX4_holdsAngle_64 (by decide) ?_
      exact mg_zretC (pc := 65) hC (by decide) rfl dX4_holdsAngle_65
  · refine mg_iconst (pc := 64) hC (0 : Int32) dX4_holdsAngle_64 (by decide) ?_
    exact mg_zretC (pc := 65) hC (by decide) rfl dX4_holdsAngle_65
theorem wdX4_holdsAngle : mg_WdV 4 yX4_holdsAngle cX4_holdsAngle 5 (some .boolean) 2 := ⟨⟨mw_588, mw_2, by decide, by decide, by decide +kernel⟩, _, rfl, mw_587, mw_p30⟩
def fX4_isOrHolds (x0 : Nat) (x1 : Int32) (x2 : Int32) (w : mg_H) : Option (Int32) := mg_gN w 4 x0 4 fun v1 => (mg_ldI w 0 v1 x1).bind fun v2 => (fX4_whole v2).bind fun v3 => mg_gN w 4 x0 4 fun v4 => (mg_ldI w 0 v4 x2).bind fun v5 => (fX4_whole v5).bind fun v6 => mg_gN w 4 x0 5 fun v7 => (mg_ldL w v7 x2).bind fun v8 => mg_gN w 4 x0 5 fun v9 => (mg_ldL w v9 x1).bind fun v10 => (fX4_isBelow v8 v6 v10 v3).bind fun v11 => if v11 = 0 then (mg_gN w 4 x0 6 fun v12 => (mg_ldL w v12 x1).bind fun v13 => mg_gN w 4 x0 6 fun v14 => (mg_ldL w v14 x2).bind fun v15 => (fX4_isBelow v13 v3 v15 v6).bind fun v16 => if v16 = 0 then (some (1 : Int32)) else (some (0 : Int32))) else (some (0 : Int32))
set_option maxHeartbeats 4000000 in
set_option maxRecDepth 100000 in
theorem kX4_isOrHolds {E : mg_P} {l : Launch} {x0 : Nat} {x1 : Int32} {x2 : Int32} {w : mg_H} {sz : Nat} {o : Int32} (hf : fX4_isOrHolds x0 x1 x2 w = some o) : mg_C E l yX4_isOrHolds cX4_isOrHolds 7 (some .boolean) 1 27 [.ref x0, .int x1, .int x2] w sz ((mg_oR mg_vI w) o) := by
  refine mg_meth (out := (mg_oR mg_vI w)) (by decide) (Nat.le_of_ble_eq_true rfl) hf ?_
  intro p e C S s m below meth c hC hin
  have hC : mg_Cx E p s m _ meth c cX4_isOrHolds 7 (some .boolean) RX4 := hC
  unfold fX4_isOrHolds
  refine mg_sub (pc := 0) [0, 1, 2] (L' := [(0, .ref x0), (1, .int x1), (2, .int x2)]) rfl ?_
  refine mg_aload_n (pc := 0) hC 0 dX4_isOrHolds_0 rfl ?_
  refine mg_getNN (pc := 1) (ci := 4) (k := 4) hC mi_4 rfl (by decide) mw_449 dX4_isOrHolds_1 (fun v1 _ => ?_)
  refine mg_iload_n (pc := 4) hC 1 dX4_isOrHolds_4 rfl ?_
  refine mg_iald (pc := 5) hC dX4_isOrHolds_5 (fun v2 _ => ?_)
  refine mg_cRL (pc := 6) (fun r hr => mg_S (rest := []) hC wdX4_whole mw_423 mw_422 dX4_isOrHolds_6 rfl rfl ⟨Nat.le_of_ble_eq_true rfl, Nat.le_of_ble_eq_true rfl⟩ (Nat.le_of_ble_eq_true rfl) (kX4_whole hr)) (fun v3 _ => ?_)
  refine mg_lstore_n (pc := 9) hC [(3, .long v3), (0, .ref x0), (1, .int x1), (2, .int x2)] dX4_isOrHolds_9 (by decide) rfl ?_
  refine mg_aload_n (pc := 10) hC 1 dX4_isOrHolds_10 rfl ?_
  refine mg_getNN (pc := 11) (ci := 4) (k := 4) hC mi_4 rfl (by decide) mw_449 dX4_isOrHolds_11 (fun v4 _ => ?_)
  refine mg_iload_n (pc := 14) hC 3 dX4_isOrHolds_14 rfl ?_
  refine mg_iald (pc := 15) hC dX4_isOrHolds_15 (fun v5 _ => ?_)
  refine mg_cRL (pc := 16) (fun r hr => mg_S (rest := []) hC wdX4_whole mw_423 mw_422 dX4_isOrHolds_16 rfl rfl ⟨Nat.le_of_ble_eq_true rfl, Nat.le_of_ble_eq_true rfl⟩ (Nat.le_of_ble_eq_true rfl) (kX4_whole hr)) (fun v6 _ => ?_)
  refine mg_lstore (pc := 19) hC [(5, .long v6), (3, .long v3), (0, .ref x0), (1, .int x1), (2, .int x2)] dX4_isOrHolds_19 (by decide) rfl ?_
  refine mg_aload_n (pc := 21) hC 2 dX4_isOrHolds_21 rfl ?_
  refine mg_getNN (pc := 22) (ci := 4) (k := 5) hC mi_4 rfl (by decide) mw_450 dX4_isOrHolds_22 (fun v7 _ => ?_)
  refine mg_iload_n (pc := 25) hC 4 dX4_isOrHolds_25 rfl ?_
  refine mg_lald (pc := 26) hC dX4_isOrHolds_26 (fun v8 _ => ?_)
  refine mg_lload (pc := 27) hC 0 dX4_isOrHolds_27 rfl ?_
  refine mg_aload_n (pc := 29) hC 2 dX4_isOrHolds_29 rfl ?_
  refine mg_getNN (pc := 30) (ci := 4) (k := 5) hC mi_4 rfl (by decide) mw_450 dX4_isOrHolds_30 (fun v9 _ => ?_)
  refine mg_iload_n (pc := 33) hC 3 dX4_isOrHolds_33 rfl ?_
  refine mg_lald (pc := 34) hC dX4_isOrHolds_34 (fun v10 _ => ?_)
  refine mg_lload_n (pc := 35) hC 1 dX4_isOrHolds_35 rfl ?_
  refine mg_cRI (pc := 36) (fun r hr => mg_S (rest := []) hC wdX4_isBelow mw_443 mw_442 dX4_isOrHolds_36 rfl rfl ⟨Nat.le_of_ble_eq_true rfl, Nat.le_of_ble_eq_true rfl⟩ (Nat.le_of_ble_eq_true rfl) (kX4_isBelow hr)) (fun v11 _ => ?_)
  refine mg_if_ne (pc := 39) hC 67 dX4_isOrHolds_39 (by decide) (fun _ => ?_) (fun _ => ?_)
  · refine mg_aload_n (pc := 42) hC 2 dX4_isOrHolds_42 rfl ?_
    refine mg_getNN (pc := 43) (ci := 4) (k := 6) hC mi_4 rfl (by decide) mw_451 dX4_isOrHolds_43 (fun v12 _ => ?_)
    refine mg_iload_n (pc := 46) hC 3 dX4_isOrHolds_46 rfl ?_
    refine mg_lald (pc := 47) hC dX4_isOrHolds_47 (fun v13 _ => ?_)
    refine mg_lload_n (pc := 48) hC 1 dX4_isOrHolds_48 rfl ?_
    refine mg_aload_n (pc := 49) hC 2 dX4_isOrHolds_49 rfl ?_
    refine mg_getNN (pc := 50) (ci := 4) (k := 6) hC mi_4 rfl (by decide) mw_451 dX4_isOrHolds_50 (fun v14 _ => ?_)
    refine mg_iload_n (pc := 53) hC 4 dX4_isOrHolds_53 rfl ?_
    refine mg_lald (pc := 54) hC dX4_isOrHolds_54 (fun v15 _ => ?_)
    refine mg_lload (pc := 55) hC 0 dX4_isOrHolds_55 rfl ?_
    refine mg_cRI (pc := 57) (fun r hr => mg_S (rest := []) hC wdX4_isBelow mw_443 mw_442 dX4_isOrHolds_57 rfl rfl ⟨Nat.le_of_ble_eq_true rfl, Nat.le_of_ble_eq_true rfl⟩ (Nat.le_of_ble_eq_true rfl) (kX4_isBelow hr)) (fun v16 _ => ?_)
    refine mg_if_ne (pc := 60) hC 67 dX4_isOrHolds_60 (by decide) (fun _ => ?_) (fun _ => ?_)
    · refine mg_iconst (pc := 63) hC (1 : Int32) dX4_isOrHolds_63 (by decide) ?_
      refine mg_goto (pc := 64) hC 68 dX4_isOrHolds_64 (by decide) ?_
      exact mg_zretC (pc := 68) hC (by decide) rfl dX4_isOrHolds_68
    · refine mg_iconst (pc := 67) hC (0 : Int32) dX4_isOrHolds_67 (by decide) ?_
      exact mg_zretC (pc := 68) hC (by decide) rfl dX4_isOrHolds_68
  · refine mg_iconst (pc := 67) hC (0 : Int32) dX4_isOrHolds_67 (by decide) ?_
    exact mg_zretC (pc := 68) hC (by decide) rfl dX4_isOrHolds_68
theorem wdX4_isOrHolds : mg_WdV 4 yX4_isOrHolds cX4_isOrHolds 7 (some .boolean) 2 := ⟨⟨mw_596, mw_2, by decide, by decide, by decide +kernel⟩, _, rfl, mw_595, mw_p31⟩
def fX4_held_b63 (w : mg_H) (r27 : Nat → Int32 → Int32 → Int32 → Int32 → Option (Int32)) (x0 : Nat) (x1 : Int32) (x2 : Int32) (x4 : Int32) (s0 : Int32) (s1 : Int32) : Option (Int32) := r27 x0 x1 x2 (s1 + s0) (x4 + (1 : Int32))
set_option maxHeartbeats 4000000 in
set_option maxRecDepth 100000 in
theorem gX4_held_b63 (hC : mg_Cx E p s m args meth c cX4_held 5 (some .int) RX4) (w : mg_H) (sz : Nat) (r27 : Nat → Int32 → Int32 → Int32 → Int32 → Option (Int32)) (hr27 : ∀ (z0 : Nat) (z1 : Int32) (z2 : Int32) (z3 : Int32) (z4 : Int32) (cells slots : Nat), mg_G E p l e ({ frames := 2, cells := C, slots := S, locals := 51 } : Room) s m args below meth c 5 (mg_oR mg_vI w) (r27 z0 z1 z2 z3 z4) w sz cells slots 27 [(0, .ref z0), (1, .int z1), (2, .int z2), (3, .int z3), (4, .int z4)] []) (x0 : Nat) (x1 : Int32) (x2 : Int32) (x4 : Int32) (s0 : Int32) (s1 : Int32) (cells slots : Nat) : mg_G E p l e ({ frames := 2, cells := C, slots := S, locals := 51 } : Room) s m args below meth c 5 (mg_oR mg_vI w) (fX4_held_b63 w r27 x0 x1 x2 x4 s0 s1) w sz cells slots 63 [(0, .ref x0), (1, .int x1), (2, .int x2), (4, .int x4)] [.int s0, .int s1] := by
  unfold fX4_held_b63
  refine mg_iadd (pc := 63) hC dX4_held_63 ?_
  refine mg_istore_n (pc := 64) hC [(3, .int (s1 + s0)), (0, .ref x0), (1, .int x1), (2, .int x2), (4, .int x4)] dX4_held_64 (by decide) rfl ?_
  refine mg_iinc (pc := 65) hC 4 (x4 + (1 : Int32)) [(4, .int (x4 + (1 : Int32))), (3, .int (s1 + s0)), (0, .ref x0), (1, .int x1), (2, .int x2)] dX4_held_65 rfl rfl (by decide) rfl ?_
  refine mg_goto (pc := 68) hC 27 dX4_held_68 (by decide) ?_
  exact mg_sub (pc := 27) [2, 3, 4, 1, 0] (L' := [(0, .ref x0), (1, .int x1), (2, .int x2), (3, .int (s1 + s0)), (4, .int (x4 + (1 : Int32)))]) rfl (hr27 _ _ _ _ _ _ _)
def fX4_held_b62 (w : mg_H) (r27 : Nat → Int32 → Int32 → Int32 → Int32 → Option (Int32)) (x0 : Nat) (x1 : Int32) (x2 : Int32) (x4 : Int32) (s0 : Int32) : Option (Int32) := fX4_held_b63 w r27 x0 x1 x2 x4 (0 : Int32) s0
set_option maxHeartbeats 4000000 in
set_option maxRecDepth 100000 in
theorem gX4_held_b62 (hC : mg_Cx E p s m args meth c cX4_held 5 (some .int) RX4) (w : mg_H) (sz : Nat) (r27 : Nat → Int32 → Int32 → Int32 → Int32 → Option (Int32)) (hr27 : ∀ (z0 : Nat) (z1 : Int32) (z2 : Int32) (z3 : Int32) (z4 : Int32) (cells slots : Nat), mg_G E p l e ({ frames := 2, cells := C, slots := S, locals := 51 } : Room) s m args below meth c 5 (mg_oR mg_vI w) (r27 z0 z1 z2 z3 z4) w sz cells slots 27 [(0, .ref z0), (1, .int z1), (2, .int z2), (3, .int z3), (4, .int z4)] []) (x0 : Nat) (x1 : Int32) (x2 : Int32) (x4 : Int32) (s0 : Int32) (cells slots : Nat) : mg_G E p l e ({ frames := 2, cells := C, slots := S, locals := 51 } : Room) s m args below meth c 5 (mg_oR mg_vI w) (fX4_held_b62 w r27 x0 x1 x2 x4 s0) w sz cells slots 62 [(0, .ref x0), (1, .int x1), (2, .int x2), (4, .int x4)] [.int s0] := by
  unfold fX4_held_b62
  refine mg_iconst (pc := 62) hC (0 : Int32) dX4_held_62 (by decide) ?_
  exact mg_sub (pc := 63) [0, 1, 2, 3] (L' := [(0, .ref x0), (1, .int x1), (2, .int x2), (4, .int x4)]) rfl (gX4_held_b63 hC _ _ _ hr27 _ _ _ _ _ _ _ _)
def fX4_held_b27 (w : mg_H) : Nat → Nat → Int32 → Int32 → Int32 → Int32 → Option (Int32)
  | 0, _, _, _, _, _ => none
  | n + 1, x0, x1, x2, x3, x4 => (mg_gI w 4 x0 3).bind fun v1 => if v1 ≤ x4 then (some x3) else (mg_gN w 4 x0 4 fun v2 => (mg_ldI w 0 v2 x4).bind fun v3 => if x2 < v3 then (fX4_held_b62 w (fX4_held_b27 w n) x0 x1 x2 x4 x3) else (mg_rc w 4 x0 ((fX4_holdsAngle x0 x4 x1 w).bind fun v4 => if v4 = 0 then (fX4_held_b62 w (fX4_held_b27 w n) x0 x1 x2 x4 x3) else (fX4_held_b63 w (fX4_held_b27 w n) x0 x1 x2 x4 (1 : Int32) x3))))
set_option maxHeartbeats 4000000 in
set_option maxRecDepth 100000 in
theorem gX4_held_b27 (hC : mg_Cx E p s m args meth c cX4_held 5 (some .int) RX4) (w : mg_H) (sz : Nat) : ∀ (n : Nat) (x0 : Nat) (x1 : Int32) (x2 : Int32) (x3 : Int32) (x4 : Int32) (cells slots : Nat), mg_G E p l e ({ frames := 2, cells := C, slots := S, locals := 51 } : Room) s m args below meth c 5 (mg_oR mg_vI w) (fX4_held_b27 w n x0 x1 x2 x3 x4) w sz cells slots 27 [(0, .ref x0), (1, .int x1), (2, .int x2), (3, .int x3), (4, .int x4)] [] := by
  intro n
  induction n with
  | zero => intros; exact fun o hf => by rw [fX4_held_b27] at hf; cases hf
  | succ n ih =>
    intro x0 x1 x2 x3 x4 cells slots
    rw [fX4_held_b27]
    refine mg_iload (pc := 27) hC 4 dX4_held_27 rfl ?_
    refine mg_aload_n (pc := 29) hC 0 dX4_held_29 rfl ?_
    refine mg_getI (pc := 30) (ci := 4) (k := 3) hC mi_4 rfl (by decide) mw_448 dX4_held_30 (fun v1 _ => ?_)
    refine mg_icmp_ge (pc := 33) hC 71 dX4_held_33 (by decide) (fun _ => ?_) (fun _ => ?_)
    · refine mg_iload_n (pc := 71) hC 3 dX4_held_71 rfl ?_
      exact mg_iret (pc := 72) hC rfl dX4_held_72
    · refine mg_iload_n (pc := 36) hC 3 dX4_held_36 rfl ?_
      refine mg_aload_n (pc := 37) hC 0 dX4_held_37 rfl ?_
      refine mg_getNN (pc := 38) (ci := 4) (k := 4) hC mi_4 rfl (by decide) mw_449 dX4_held_38 (fun v2 _ => ?_)
      refine mg_iload (pc := 41) hC 4 dX4_held_41 rfl ?_
      refine mg_iald (pc := 43) hC dX4_held_43 (fun v3 _ => ?_)
      refine mg_iload_n (pc := 44) hC 2 dX4_held_44 rfl ?_
      refine mg_icmp_gt (pc := 45) hC 62 dX4_held_45 (by decide) (fun _ => ?_) (fun _ => ?_)
      · exact mg_sub (pc := 62) [0, 1, 2, 4] (L' := [(0, .ref x0), (1, .int x1), (2, .int x2), (4, .int x4)]) rfl (gX4_held_b62 hC _ _ _ ih _ _ _ _ _ _ _)
      · refine mg_aload_n (pc := 48) hC 0 dX4_held_48 rfl ?_
        refine mg_iload (pc := 49) hC 4 dX4_held_49 rfl ?_
        refine mg_iload_n (pc := 51) hC 1 dX4_held_51 rfl ?_
        refine mg_recv (ci := 4) (fun hb => ?_)
        refine mg_cRI (pc := 52) (fun r hr => mg_VR (rest := [.int x3]) (av := [.int x4, .int x1]) (ci := 4) hC wdX4_holdsAngle mw_585 dX4_held_52 rfl rfl ⟨Nat.le_of_ble_eq_true rfl, Nat.le_of_ble_eq_true rfl⟩ (Nat.le_of_ble_eq_true rfl) hb (kX4_holdsAngle hr)) (fun v4 _ => ?_)
        refine mg_if_eq (pc := 55) hC 62 dX4_held_55 (by decide) (fun _ => ?_) (fun _ => ?_)
        · exact mg_sub (pc := 62) [0, 1, 2, 4] (L' := [(0, .ref x0), (1, .int x1), (2, .int x2), (4, .int x4)]) rfl (gX4_held_b62 hC _ _ _ ih _ _ _ _ _ _ _)
        · refine mg_iconst (pc := 58) hC (1 : Int32) dX4_held_58 (by decide) ?_
          refine mg_goto (pc := 59) hC 63 dX4_held_59 (by decide) ?_
          exact mg_sub (pc := 63) [0, 1, 2, 4] (L' := [(0, .ref x0), (1, .int x1), (2, .int x2), (4, .int x4)]) rfl (gX4_held_b63 hC _ _ _ ih _ _ _ _ _ _ _ _)
def fX4_held (x0 : Nat) (x1 : Int32) (x2 : Int32) (w : mg_H) : Option (Int32) := mg_rc w 4 x0 ((fX4_isAngle x0 x1 w).bind fun v1 => if v1 = 0 then (some (-1 : Int32)) else ((fX4_in (x2.toInt64) (1 : Int64) (8 : Int64)).bind fun v2 => if v2 = 0 then (some (-1 : Int32)) else (fX4_held_b27 w mg_N x0 x1 x2 (0 : Int32) (0 : Int32))))
set_option maxHeartbeats 4000000 in
set_option maxRecDepth 100000 in
theorem kX4_held {E : mg_P} {l : Launch} {x0 : Nat} {x1 : Int32} {x2 : Int32} {w : mg_H} {sz : Nat} {o : Int32} (hf : fX4_held x0 x1 x2 w = some o) : mg_C E l yX4_held cX4_held 5 (some .int) 2 51 [.ref x0, .int x1, .int x2] w sz ((mg_oR mg_vI w) o) := by
  refine mg_meth (out := (mg_oR mg_vI w)) (by decide) (Nat.le_of_ble_eq_true rfl) hf ?_
  intro p e C S s m below meth c hC hin
  have hC : mg_Cx E p s m _ meth c cX4_held 5 (some .int) RX4 := hC
  unfold fX4_held
  refine mg_sub (pc := 0) [0, 1, 2] (L' := [(0, .ref x0), (1, .int x1), (2, .int x2)]) rfl ?_
  refine mg_aload_n (pc := 0) hC 0 dX4_held_0 rfl ?_
  refine mg_iload_n (pc := 1) hC 1 dX4_held_1 rfl ?_
  refine mg_recv (ci := 4) (fun hb => ?_)
  refine mg_cRI (pc := 2) (fun r hr => mg_VR (rest := []) (av := [.int x1]) (ci := 4) hC wdX4_isAngle mw_496 dX4_held_2 rfl rfl ⟨Nat.le_of_ble_eq_true rfl, Nat.le_of_ble_eq_true rfl⟩ (Nat.le_of_ble_eq_true rfl) hb (kX4_isAngle hr)) (fun v1 _ => ?_)
  refine mg_if_eq (pc := 5) hC 20 dX4_held_5 (by decide) (fun _ => ?_) (fun _ => ?_)
  · refine mg_iconst (pc := 20) hC (-1 : Int32) dX4_held_20 (by decide) ?_
    exact mg_iret (pc := 21) hC rfl dX4_held_21
  · refine mg_iload_n (pc := 8) hC 2 dX4_held_8 rfl ?_
    refine mg_i2l (pc := 9) hC dX4_held_9 ?_
    refine mg_lconst (pc := 10) hC (1 : Int64) dX4_held_10 (by decide) ?_
    refine mg_ldc2 (pc := 11) hC (8 : Int64) dX4_held_11 mw_563 ?_
    refine mg_cRI (pc := 14) (fun r hr => mg_S (rest := []) hC wdX4_in mw_426 mw_425 dX4_held_14 rfl rfl ⟨Nat.le_of_ble_eq_true rfl, Nat.le_of_ble_eq_true rfl⟩ (Nat.le_of_ble_eq_true rfl) (kX4_in hr)) (fun v2 _ => ?_)
    refine mg_if_ne (pc := 17) hC 22 dX4_held_17 (by decide) (fun _ => ?_) (fun _ => ?_)
    · refine mg_iconst (pc := 20) hC (-1 : Int32) dX4_held_20 (by decide) ?_
      exact mg_iret (pc := 21) hC rfl dX4_held_21
    · refine mg_iconst (pc := 22) hC (0 : Int32) dX4_held_22 (by decide) ?_
      refine mg_istore_n (pc := 23) hC [(3, .int (0 : Int32)), (0, .ref x0), (1, .int x1), (2, .int x2)] dX4_held_23 (by decide) rfl ?_
      refine mg_iconst (pc := 24) hC (0 : Int32) dX4_held_24 (by decide) ?_
      refine mg_istore (pc := 25) hC [(4, .int (0 : Int32)), (3, .int (0 : Int32)), (0, .ref x0), (1, .int x1), (2, .int x2)] dX4_held_25 (by decide) rfl ?_
      exact mg_sub (pc := 27) [2, 3, 4, 1, 0] (L' := [(0, .ref x0), (1, .int x1), (2, .int x2), (3, .int (0 : Int32)), (4, .int (0 : Int32))]) rfl (gX4_held_b27 hC _ _  _ _ _ _ _ _ _ _)
theorem wdX4_held : mg_WdV 4 yX4_held cX4_held 5 (some .int) 2 := ⟨⟨mw_584, mw_2, by decide, by decide, by decide +kernel⟩, _, rfl, mw_582, mw_583⟩
def fX4_holder_b176 (w : mg_H) (r40 : Nat → Int32 → Int32 → Int32 → Int32 → Int32 → Option (Int32)) (x0 : Nat) (x1 : Int32) (x2 : Int32) (x3 : Int32) (x4 : Int32) (x5 : Int32) : Option (Int32) := r40 x0 x1 x2 x3 x4 (x5 + (1 : Int32))
set_option maxHeartbeats 4000000 in
set_option maxRecDepth 100000 in
theorem gX4_holder_b176 (hC : mg_Cx E p s m args meth c cX4_holder 8 (some .int) RX4) (w : mg_H) (sz : Nat) (r40 : Nat → Int32 → Int32 → Int32 → Int32 → Int32 → Option (Int32)) (hr40 : ∀ (z0 : Nat) (z1 : Int32) (z2 : Int32) (z3 : Int32) (z4 : Int32) (z5 : Int32) (cells slots : Nat), mg_G E p l e ({ frames := 2, cells := C, slots := S, locals := 53 } : Room) s m args below meth c 8 (mg_oR mg_vI w) (r40 z0 z1 z2 z3 z4 z5) w sz cells slots 40 [(0, .ref z0), (1, .int z1), (2, .int z2), (3, .int z3), (4, .int z4), (5, .int z5)] []) (x0 : Nat) (x1 : Int32) (x2 : Int32) (x3 : Int32) (x4 : Int32) (x5 : Int32) (cells slots : Nat) : mg_G E p l e ({ frames := 2, cells := C, slots := S, locals := 53 } : Room) s m args below meth c 8 (mg_oR mg_vI w) (fX4_holder_b176 w r40 x0 x1 x2 x3 x4 x5) w sz cells slots 176 [(0, .ref x0), (1, .int x1), (2, .int x2), (3, .int x3), (4, .int x4), (5, .int x5)] [] := by
  unfold fX4_holder_b176
  refine mg_iinc (pc := 176) hC 5 (x5 + (1 : Int32)) [(5, .int (x5 + (1 : Int32))), (0, .ref x0), (1, .int x1), (2, .int x2), (3, .int x3), (4, .int x4)] dX4_holder_176 rfl rfl (by decide) rfl ?_
  refine mg_goto (pc := 179) hC 40 dX4_holder_179 (by decide) ?_
  exact mg_sub (pc := 40) [1, 2, 3, 4, 5, 0] (L' := [(0, .ref x0), (1, .int x1), (2, .int x2), (3, .int x3), (4, .int x4), (5, .int (x5 + (1 : Int32)))]) rfl (hr40 _ _ _ _ _ _ _ _)
def fX4_holder_b146 (w : mg_H) (x0 : Nat) (x4 : Int32) (x5 : Int32) : Option (Int32) := if x4 = 0 then (mg_gN w 4 x0 4 fun v1 => (mg_ldI w 0 v1 x5).bind fun v2 => some v2) else (mg_gN w 4 x0 4 fun v3 => (mg_ldI w 0 v3 x5).bind fun v4 => mg_rc w 4 x0 ((fX4_firstOf x0 v4 w).bind fun v5 => some (x5 - v5)))
set_option maxHeartbeats 4000000 in
set_option maxRecDepth 100000 in
theorem gX4_holder_b146 (hC : mg_Cx E p s m args meth c cX4_holder 8 (some .int) RX4) (w : mg_H) (sz : Nat) (x0 : Nat) (x4 : Int32) (x5 : Int32) (cells slots : Nat) : mg_G E p l e ({ frames := 2, cells := C, slots := S, locals := 53 } : Room) s m args below meth c 8 (mg_oR mg_vI w) (fX4_holder_b146 w x0 x4 x5) w sz cells slots 146 [(0, .ref x0), (4, .int x4), (5, .int x5)] [] := by
  unfold fX4_holder_b146
  refine mg_iload (pc := 146) hC 1 dX4_holder_146 rfl ?_
  refine mg_if_ne (pc := 148) hC 161 dX4_holder_148 (by decide) (fun _ => ?_) (fun _ => ?_)
  · refine mg_aload_n (pc := 151) hC 0 dX4_holder_151 rfl ?_
    refine mg_getNN (pc := 152) (ci := 4) (k := 4) hC mi_4 rfl (by decide) mw_449 dX4_holder_152 (fun v1 _ => ?_)
    refine mg_iload (pc := 155) hC 2 dX4_holder_155 rfl ?_
    refine mg_iald (pc := 157) hC dX4_holder_157 (fun v2 _ => ?_)
    refine mg_goto (pc := 158) hC 175 dX4_holder_158 (by decide) ?_
    exact mg_iret (pc := 175) hC rfl dX4_holder_175
  · refine mg_iload (pc := 161) hC 2 dX4_holder_161 rfl ?_
    refine mg_aload_n (pc := 163) hC 0 dX4_holder_163 rfl ?_
    refine mg_aload_n (pc := 164) hC 0 dX4_holder_164 rfl ?_
    refine mg_getNN (pc := 165) (ci := 4) (k := 4) hC mi_4 rfl (by decide) mw_449 dX4_holder_165 (fun v3 _ => ?_)
    refine mg_iload (pc := 168) hC 2 dX4_holder_168 rfl ?_
    refine mg_iald (pc := 170) hC dX4_holder_170 (fun v4 _ => ?_)
    refine mg_recv (ci := 4) (fun hb => ?_)
    refine mg_cRI (pc := 171) (fun r hr => mg_VR (rest := [.int x5]) (av := [.int v4]) (ci := 4) hC wdX4_firstOf mw_569 dX4_holder_171 rfl rfl ⟨Nat.le_of_ble_eq_true rfl, Nat.le_of_ble_eq_true rfl⟩ (Nat.le_of_ble_eq_true rfl) hb (kX4_firstOf hr)) (fun v5 _ => ?_)
    refine mg_isub (pc := 174) hC dX4_holder_174 ?_
    exact mg_iret (pc := 175) hC rfl dX4_holder_175
def fX4_holder_b140 (w : mg_H) (r40 : Nat → Int32 → Int32 → Int32 → Int32 → Int32 → Option (Int32)) (x0 : Nat) (x1 : Int32) (x2 : Int32) (x3 : Int32) (x4 : Int32) (x5 : Int32) (x6 : Int32) : Option (Int32) := if x6 = x3 then (fX4_holder_b146 w x0 x4 x5) else (fX4_holder_b176 w r40 x0 x1 x2 x3 x4 x5)
set_option maxHeartbeats 4000000 in
set_option maxRecDepth 100000 in
theorem gX4_holder_b140 (hC : mg_Cx E p s m args meth c cX4_holder 8 (some .int) RX4) (w : mg_H) (sz : Nat) (r40 : Nat → Int32 → Int32 → Int32 → Int32 → Int32 → Option (Int32)) (hr40 : ∀ (z0 : Nat) (z1 : Int32) (z2 : Int32) (z3 : Int32) (z4 : Int32) (z5 : Int32) (cells slots : Nat), mg_G E p l e ({ frames := 2, cells := C, slots := S, locals := 53 } : Room) s m args below meth c 8 (mg_oR mg_vI w) (r40 z0 z1 z2 z3 z4 z5) w sz cells slots 40 [(0, .ref z0), (1, .int z1), (2, .int z2), (3, .int z3), (4, .int z4), (5, .int z5)] []) (x0 : Nat) (x1 : Int32) (x2 : Int32) (x3 : Int32) (x4 : Int32) (x5 : Int32) (x6 : Int32) (cells slots : Nat) : mg_G E p l e ({ frames := 2, cells := C, slots := S, locals := 53 } : Room) s m args below meth c 8 (mg_oR mg_vI w) (fX4_holder_b140 w r40 x0 x1 x2 x3 x4 x5 x6) w sz cells slots 140 [(0, .ref x0), (1, .int x1), (2, .int x2), (3, .int x3), (4, .int x4), (5, .int x5), (6, .int x6)] [] := by
  unfold fX4_holder_b140
  refine mg_iload (pc := 140) hC 6 dX4_holder_140 rfl ?_
  refine mg_iload_n (pc := 142) hC 3 dX4_holder_142 rfl ?_
  refine mg_icmp_ne (pc := 143) hC 176 dX4_holder_143 (by decide) (fun _ => ?_) (fun _ => ?_)
  · exact mg_sub (pc := 146) [0, 4, 5] (L' := [(0, .ref x0), (4, .int x4), (5, .int x5)]) rfl (gX4_holder_b146 hC _ _  _ _ _ _ _)
  · exact mg_sub (pc := 176) [0, 1, 2, 3, 4, 5] (L' := [(0, .ref x0), (1, .int x1), (2, .int x2), (3, .int x3), (4, .int x4), (5, .int x5)]) rfl (gX4_holder_b176 hC _ _ _ hr40 _ _ _ _ _ _ _ _)
def fX4_holder_b131 (w : mg_H) (r40 : Nat → Int32 → Int32 → Int32 → Int32 → Int32 → Option (Int32)) (r76 : Nat → Int32 → Int32 → Int32 → Int32 → Int32 → Int32 → Int32 → Option (Int32)) (x0 : Nat) (x1 : Int32) (x2 : Int32) (x3 : Int32) (x4 : Int32) (x5 : Int32) (x7 : Int32) (s0 : Int32) (s1 : Int32) : Option (Int32) := r76 x0 x1 x2 x3 x4 x5 (s1 + s0) (x7 + (1 : Int32))
set_option maxHeartbeats 4000000 in
set_option maxRecDepth 100000 in
theorem gX4_holder_b131 (hC : mg_Cx E p s m args meth c cX4_holder 8 (some .int) RX4) (w : mg_H) (sz : Nat) (r40 : Nat → Int32 → Int32 → Int32 → Int32 → Int32 → Option (Int32)) (hr40 : ∀ (z0 : Nat) (z1 : Int32) (z2 : Int32) (z3 : Int32) (z4 : Int32) (z5 : Int32) (cells slots : Nat), mg_G E p l e ({ frames := 2, cells := C, slots := S, locals := 53 } : Room) s m args below meth c 8 (mg_oR mg_vI w) (r40 z0 z1 z2 z3 z4 z5) w sz cells slots 40 [(0, .ref z0), (1, .int z1), (2, .int z2), (3, .int z3), (4, .int z4), (5, .int z5)] []) (r76 : Nat → Int32 → Int32 → Int32 → Int32 → Int32 → Int32 → Int32 → Option (Int32)) (hr76 : ∀ (z0 : Nat) (z1 : Int32) (z2 : Int32) (z3 : Int32) (z4 : Int32) (z5 : Int32) (z6 : Int32) (z7 : Int32) (cells slots : Nat), mg_G E p l e ({ frames := 2, cells := C, slots := S, locals := 53 } : Room) s m args below meth c 8 (mg_oR mg_vI w) (r76 z0 z1 z2 z3 z4 z5 z6 z7) w sz cells slots 76 [(0, .ref z0), (1, .int z1), (2, .int z2), (3, .int z3), (4, .int z4), (5, .int z5), (6, .int z6), (7, .int z7)] []) (x0 : Nat) (x1 : Int32) (x2 : Int32) (x3 : Int32) (x4 : Int32) (x5 : Int32) (x7 : Int32) (s0 : Int32) (s1 : Int32) (cells slots : Nat) : mg_G E p l e ({ frames := 2, cells := C, slots := S, locals := 53 } : Room) s m args below meth c 8 (mg_oR mg_vI w) (fX4_holder_b131 w r40 r76 x0 x1 x2 x3 x4 x5 x7 s0 s1) w sz cells slots 131 [(0, .ref x0), (1, .int x1), (2, .int x2), (3, .int x3), (4, .int x4), (5, .int x5), (7, .int x7)] [.int s0, .int s1] := by
  unfold fX4_holder_b131
  refine mg_iadd (pc := 131) hC dX4_holder_131 ?_
  refine mg_istore (pc := 132) hC [(6, .int (s1 + s0)), (0, .ref x0), (1, .int x1), (2, .int x2), (3, .int x3), (4, .int x4), (5, .int x5), (7, .int x7)] dX4_holder_132 (by decide) rfl ?_
  refine mg_iinc (pc := 134) hC 7 (x7 + (1 : Int32)) [(7, .int (x7 + (1 : Int32))), (6, .int (s1 + s0)), (0, .ref x0), (1, .int x1), (2, .int x2), (3, .int x3), (4, .int x4), (5, .int x5)] dX4_holder_134 rfl rfl (by decide) rfl ?_
  refine mg_goto (pc := 137) hC 76 dX4_holder_137 (by decide) ?_
  exact mg_sub (pc := 76) [2, 3, 4, 5, 6, 7, 1, 0] (L' := [(0, .ref x0), (1, .int x1), (2, .int x2), (3, .int x3), (4, .int x4), (5, .int x5), (6, .int (s1 + s0)), (7, .int (x7 + (1 : Int32)))]) rfl (hr76 _ _ _ _ _ _ _ _ _ _)
def fX4_holder_b130 (w : mg_H) (r40 : Nat → Int32 → Int32 → Int32 → Int32 → Int32 → Option (Int32)) (r76 : Nat → Int32 → Int32 → Int32 → Int32 → Int32 → Int32 → Int32 → Option (Int32)) (x0 : Nat) (x1 : Int32) (x2 : Int32) (x3 : Int32) (x4 : Int32) (x5 : Int32) (x7 : Int32) (s0 : Int32) : Option (Int32) := fX4_holder_b131 w r40 r76 x0 x1 x2 x3 x4 x5 x7 (0 : Int32) s0
set_option maxHeartbeats 4000000 in
set_option maxRecDepth 100000 in
theorem gX4_holder_b130 (hC : mg_Cx E p s m args meth c cX4_holder 8 (some .int) RX4) (w : mg_H) (sz : Nat) (r40 : Nat → Int32 → Int32 → Int32 → Int32 → Int32 → Option (Int32)) (hr40 : ∀ (z0 : Nat) (z1 : Int32) (z2 : Int32) (z3 : Int32) (z4 : Int32) (z5 : Int32) (cells slots : Nat), mg_G E p l e ({ frames := 2, cells := C, slots := S, locals := 53 } : Room) s m args below meth c 8 (mg_oR mg_vI w) (r40 z0 z1 z2 z3 z4 z5) w sz cells slots 40 [(0, .ref z0), (1, .int z1), (2, .int z2), (3, .int z3), (4, .int z4), (5, .int z5)] []) (r76 : Nat → Int32 → Int32 → Int32 → Int32 → Int32 → Int32 → Int32 → Option (Int32)) (hr76 : ∀ (z0 : Nat) (z1 : Int32) (z2 : Int32) (z3 : Int32) (z4 : Int32) (z5 : Int32) (z6 : Int32) (z7 : Int32) (cells slots : Nat), mg_G E p l e ({ frames := 2, cells := C, slots := S, locals := 53 } : Room) s m args below meth c 8 (mg_oR mg_vI w) (r76 z0 z1 z2 z3 z4 z5 z6 z7) w sz cells slots 76 [(0, .ref z0), (1, .int z1), (2, .int z2), (3, .int z3), (4, .int z4), (5, .int z5), (6, .int z6), (7, .int z7)] []) (x0 : Nat) (x1 : Int32) (x2 : Int32) (x3 : Int32) (x4 : Int32) (x5 : Int32) (x7 : Int32) (s0 : Int32) (cells slots : Nat) : mg_G E p l e ({ frames := 2, cells := C, slots := S, locals := 53 } : Room) s m args below meth c 8 (mg_oR mg_vI w) (fX4_holder_b130 w r40 r76 x0 x1 x2 x3 x4 x5 x7 s0) w sz cells slots 130 [(0, .ref x0), (1, .int x1), (2, .int x2), (3, .int x3), (4, .int x4), (5, .int x5), (7, .int x7)] [.int s0] := by
  unfold fX4_holder_b130
  refine mg_iconst (pc := 130) hC (0 : Int32) dX4_holder_130 (by decide) ?_
  exact mg_sub (pc := 131) [0, 1, 2, 3, 4, 5, 6] (L' := [(0, .ref x0), (1, .int x1), (2, .int x2), (3, .int x3), (4, .int x4), (5, .int x5), (7, .int x7)]) rfl (gX4_holder_b131 hC _ _ _ hr40 _ hr76 _ _ _ _ _ _ _ _ _ _ _)
def fX4_holder_b76 (w : mg_H) (r40 : Nat → Int32 → Int32 → Int32 → Int32 → Int32 → Option (Int32)) : Nat → Nat → Int32 → Int32 → Int32 → Int32 → Int32 → Int32 → Int32 → Option (Int32)
  | 0, _, _, _, _, _, _, _, _ => none
  | n + 1, x0, x1, x2, x3, x4, x5, x6, x7 => (mg_gI w 4 x0 3).bind fun v1 => if v1 ≤ x7 then (fX4_holder_b140 w r40 x0 x1 x2 x3 x4 x5 x6) else (if x7 = x5 then (fX4_holder_b130 w r40 (fX4_holder_b76 w r40 n) x0 x1 x2 x3 x4 x5 x7 x6) else (mg_gN w 4 x0 4 fun v2 => (mg_ldI w 0 v2 x7).bind fun v3 => if x2 < v3 then (fX4_holder_b130 w r40 (fX4_holder_b76 w r40 n) x0 x1 x2 x3 x4 x5 x7 x6) else (mg_rc w 4 x0 ((fX4_holdsAngle x0 x7 x1 w).bind fun v4 => if v4 = 0 then (fX4_holder_b130 w r40 (fX4_holder_b76 w r40 n) x0 x1 x2 x3 x4 x5 x7 x6) else (mg_rc w 4 x0 ((fX4_isOrHolds x0 x7 x5 w).bind fun v5 => if v5 = 0 then (fX4_holder_b130 w r40 (fX4_holder_b76 w r40 n) x0 x1 x2 x3 x4 x5 x7 x6) else (fX4_holder_b131 w r40 (fX4_holder_b76 w r40 n) x0 x1 x2 x3 x4 x5 x7 (1 : Int32) x6)))))))
set_option maxHeartbeats 4000000 in
set_option maxRecDepth 100000 in
theorem gX4_holder_b76 (hC : mg_Cx E p s m args meth c cX4_holder 8 (some .int) RX4) (w : mg_H) (sz : Nat) (r40 : Nat → Int32 → Int32 → Int32 → Int32 → Int32 → Option (Int32)) (hr40 : ∀ (z0 : Nat) (z1 : Int32) (z2 : Int32) (z3 : Int32) (z4 : Int32) (z5 : Int32) (cells slots : Nat), mg_G E p l e ({ frames := 2, cells := C, slots := S, locals := 53 } : Room) s m args below meth c 8 (mg_oR mg_vI w) (r40 z0 z1 z2 z3 z4 z5) w sz cells slots 40 [(0, .ref z0), (1, .int z1), (2, .int z2), (3, .int z3), (4, .int z4), (5, .int z5)] []) : ∀ (n : Nat) (x0 : Nat) (x1 : Int32) (x2 : Int32) (x3 : Int32) (x4 : Int32) (x5 : Int32) (x6 : Int32) (x7 : Int32) (cells slots : Nat), mg_G E p l e ({ frames := 2, cells := C, slots := S, locals := 53 } : Room) s m args below meth c 8 (mg_oR mg_vI w) (fX4_holder_b76 w r40 n x0 x1 x2 x3 x4 x5 x6 x7) w sz cells slots 76 [(0, .ref x0), (1, .int x1), (2, .int x2), (3, .int x3), (4, .int x4), (5, .int x5), (6, .int x6), (7, .int x7)] [] := by
  intro n
  induction n with
  | zero => intros; exact fun o hf => by rw [fX4_holder_b76] at hf; cases hf
  | succ n ih =>
    intro x0 x1 x2 x3 x4 x5 x6 x7 cells slots
    rw [fX4_holder_b76]
    refine mg_iload (pc := 76) hC 7 dX4_holder_76 rfl ?_
    refine mg_aload_n (pc := 78) hC 0 dX4_holder_78 rfl ?_
    refine mg_getI (pc := 79) (ci := 4) (k := 3) hC mi_4 rfl (by decide) mw_448 dX4_holder_79 (fun v1 _ => ?_)
    refine mg_icmp_ge (pc := 82) hC 140 dX4_holder_82 (by decide) (fun _ => ?_) (fun _ => ?_)
    · exact mg_sub (pc := 140) [0, 1, 2, 3, 4, 5, 6] (L' := [(0, .ref x0), (1, .int x1), (2, .int x2), (3, .int x3), (4, .int x4), (5, .int x5), (6, .int x6)]) rfl (gX4_holder_b140 hC _ _ _ hr40 _ _ _ _ _ _ _ _ _)
    · refine mg_iload (pc := 85) hC 6 dX4_holder_85 rfl ?_
      refine mg_iload (pc := 87) hC 7 dX4_holder_87 rfl ?_
      refine mg_iload (pc := 89) hC 5 dX4_holder_89 rfl ?_
      refine mg_icmp_eq (pc := 91) hC 130 dX4_holder_91 (by decide) (fun _ => ?_) (fun _ => ?_)
      · exact mg_sub (pc := 130) [0, 1, 2, 3, 4, 5, 7] (L' := [(0, .ref x0), (1, .int x1), (2, .int x2), (3, .int x3), (4, .int x4), (5, .int x5), (7, .int x7)]) rfl (gX4_holder_b130 hC _ _ _ hr40 _ ih _ _ _ _ _ _ _ _ _ _)
      · refine mg_aload_n (pc := 94) hC 0 dX4_holder_94 rfl ?_
        refine mg_getNN (pc := 95) (ci := 4) (k := 4) hC mi_4 rfl (by decide) mw_449 dX4_holder_95 (fun v2 _ => ?_)
        refine mg_iload (pc := 98) hC 7 dX4_holder_98 rfl ?_
        refine mg_iald (pc := 100) hC dX4_holder_100 (fun v3 _ => ?_)
        refine mg_iload_n (pc := 101) hC 2 dX4_holder_101 rfl ?_
        refine mg_icmp_gt (pc := 102) hC 130 dX4_holder_102 (by decide) (fun _ => ?_) (fun _ => ?_)
        · exact mg_sub (pc := 130) [0, 1, 2, 3, 4, 5, 7] (L' := [(0, .ref x0), (1, .int x1), (2, .int x2), (3, .int x3), (4, .int x4), (5, .int x5), (7, .int x7)]) rfl (gX4_holder_b130 hC _ _ _ hr40 _ ih _ _ _ _ _ _ _ _ _ _)
        · refine mg_aload_n (pc := 105) hC 0 dX4_holder_105 rfl ?_
          refine mg_iload (pc := 106) hC 7 dX4_holder_106 rfl ?_
          refine mg_iload_n (pc := 108) hC 1 dX4_holder_108 rfl ?_
          refine mg_recv (ci := 4) (fun hb => ?_)
          refine mg_cRI (pc := 109) (fun r hr => mg_VR (rest := [.int x6]) (av := [.int x7, .int x1]) (ci := 4) hC wdX4_holdsAngle mw_585 dX4_holder_109 rfl rfl ⟨Nat.le_of_ble_eq_true rfl, Nat.le_of_ble_eq_true rfl⟩ (Nat.le_of_ble_eq_true rfl) hb (kX4_holdsAngle hr)) (fun v4 _ => ?_)
          refine mg_if_eq (pc := 112) hC 130 dX4_holder_112 (by decide) (fun _ => ?_) (fun _ => ?_)
          · exact mg_sub (pc := 130) [0, 1, 2, 3, 4, 5, 7] (L' := [(0, .ref x0), (1, .int x1), (2, .int x2), (3, .int x3), (4, .int x4), (5, .int x5), (7, .int x7)]) rfl (gX4_holder_b130 hC _ _ _ hr40 _ ih _ _ _ _ _ _ _ _ _ _)
          · refine mg_aload_n (pc := 115) hC 0 dX4_holder_115 rfl ?_
            refine mg_iload (pc := 116) hC 7 dX4_holder_116 rfl ?_
            refine mg_iload (pc := 118) hC 5 dX4_holder_118 rfl ?_
            refine mg_recv (ci := 4) (fun hb => ?_)
            refine mg_cRI (pc := 120) (fun r hr => mg_VR (rest := [.int x6]) (av := [.int x7, .int x5]) (ci := 4) hC wdX4_isOrHolds mw_593 dX4_holder_120 rfl rfl ⟨Nat.le_of_ble_eq_true rfl, Nat.le_of_ble_eq_true rfl⟩ (Nat.le_of_ble_eq_true rfl) hb (kX4_isOrHolds hr)) (fun v5 _ => ?_)
            refine mg_if_eq (pc := 123) hC 130 dX4_holder_123 (by decide) (fun _ => ?_) (fun _ => ?_)
            · exact mg_sub (pc := 130) [0, 1, 2, 3, 4, 5, 7] (L' := [(0, .ref x0), (1, .int x1), (2, .int x2), (3, .int x3), (4, .int x4), (5, .int x5), (7, .int x7)]) rfl (gX4_holder_b130 hC _ _ _ hr40 _ ih _ _ _ _ _ _ _ _ _ _)
            · refine mg_iconst (pc := 126) hC (1 : Int32) dX4_holder_126 (by decide) ?_
              refine mg_goto (pc := 127) hC 131 dX4_holder_127 (by decide) ?_
              exact mg_sub (pc := 131) [0, 1, 2, 3, 4, 5, 7] (L' := [(0, .ref x0), (1, .int x1), (2, .int x2), (3, .int x3), (4, .int x4), (5, .int x5), (7, .int x7)]) rfl (gX4_holder_b131 hC _ _ _ hr40 _ ih _ _ _ _ _ _ _ _ _ _ _)
def fX4_holder_b40 (w : mg_H) : Nat → Nat → Int32 → Int32 → Int32 → Int32 → Int32 → Option (Int32)
  | 0, _, _, _, _, _, _ => none
  | n + 1, x0, x1, x2, x3, x4, x5 => (mg_gI w 4 x0 3).bind fun v1 => if v1 ≤ x5 then (some (-4 : Int32)) else (mg_gN w 4 x0 4 fun v2 => (mg_ldI w 0 v2 x5).bind fun v3 => if x2 < v3 then (fX4_holder_b176 w (fX4_holder_b40 w n) x0 x1 x2 x3 x4 x5) else (mg_rc w 4 x0 ((fX4_holdsAngle x0 x5 x1 w).bind fun v4 => if v4 = 0 then (fX4_holder_b176 w (fX4_holder_b40 w n) x0 x1 x2 x3 x4 x5) else (fX4_holder_b76 w (fX4_holder_b40 w n) mg_N x0 x1 x2 x3 x4 x5 (0 : Int32) (0 : Int32)))))
set_option maxHeartbeats 4000000 in
set_option maxRecDepth 100000 in
theorem gX4_holder_b40 (hC : mg_Cx E p s m args meth c cX4_holder 8 (some .int) RX4) (w : mg_H) (sz : Nat) : ∀ (n : Nat) (x0 : Nat) (x1 : Int32) (x2 : Int32) (x3 : Int32) (x4 : Int32) (x5 : Int32) (cells slots : Nat), mg_G E p l e ({ frames := 2, cells := C, slots := S, locals := 53 } : Room) s m args below meth c 8 (mg_oR mg_vI w) (fX4_holder_b40 w n x0 x1 x2 x3 x4 x5) w sz cells slots 40 [(0, .ref x0), (1, .int x1), (2, .int x2), (3, .int x3), (4, .int x4), (5, .int x5)] [] := by
  intro n
  induction n with
  | zero => intros; exact fun o hf => by rw [fX4_holder_b40] at hf; cases hf
  | succ n ih =>
    intro x0 x1 x2 x3 x4 x5 cells slots
    rw [fX4_holder_b40]
    refine mg_iload (pc := 40) hC 5 dX4_holder_40 rfl ?_
    refine mg_aload_n (pc := 42) hC 0 dX4_holder_42 rfl ?_
    refine mg_getI (pc := 43) (ci := 4) (k := 3) hC mi_4 rfl (by decide) mw_448 dX4_holder_43 (fun v1 _ => ?_)
    refine mg_icmp_ge (pc := 46) hC 182 dX4_holder_46 (by decide) (fun _ => ?_) (fun _ => ?_)
    · refine mg_bipush (pc := 182) hC (-4 : Int32) dX4_holder_182 (by decide) ?_
      exact mg_iret (pc := 184) hC rfl dX4_holder_184
    · refine mg_aload_n (pc := 49) hC 0 dX4_holder_49 rfl ?_
      refine mg_getNN (pc := 50) (ci := 4) (k := 4) hC mi_4 rfl (by decide) mw_449 dX4_holder_50 (fun v2 _ => ?_)
      refine mg_iload (pc := 53) hC 5 dX4_holder_53 rfl ?_
      refine mg_iald (pc := 55) hC dX4_holder_55 (fun v3 _ => ?_)
      refine mg_iload_n (pc := 56) hC 2 dX4_holder_56 rfl ?_
      refine mg_icmp_gt (pc := 57) hC 176 dX4_holder_57 (by decide) (fun _ => ?_) (fun _ => ?_)
      · exact mg_sub (pc := 176) [0, 1, 2, 3, 4, 5] (L' := [(0, .ref x0), (1, .int x1), (2, .int x2), (3, .int x3), (4, .int x4), (5, .int x5)]) rfl (gX4_holder_b176 hC _ _ _ ih _ _ _ _ _ _ _ _)
      · refine mg_aload_n (pc := 60) hC 0 dX4_holder_60 rfl ?_
        refine mg_iload (pc := 61) hC 5 dX4_holder_61 rfl ?_
        refine mg_iload_n (pc := 63) hC 1 dX4_holder_63 rfl ?_
        refine mg_recv (ci := 4) (fun hb => ?_)
        refine mg_cRI (pc := 64) (fun r hr => mg_VR (rest := []) (av := [.int x5, .int x1]) (ci := 4) hC wdX4_holdsAngle mw_585 dX4_holder_64 rfl rfl ⟨Nat.le_of_ble_eq_true rfl, Nat.le_of_ble_eq_true rfl⟩ (Nat.le_of_ble_eq_true rfl) hb (kX4_holdsAngle hr)) (fun v4 _ => ?_)
        refine mg_if_eq (pc := 67) hC 176 dX4_holder_67 (by decide) (fun _ => ?_) (fun _ => ?_)
        · exact mg_sub (pc := 176) [0, 1, 2, 3, 4, 5] (L' := [(0, .ref x0), (1, .int x1), (2, .int x2), (3, .int x3), (4, .int x4), (5, .int x5)]) rfl (gX4_holder_b176 hC _ _ _ ih _ _ _ _ _ _ _ _)
        · refine mg_iconst (pc := 70) hC (0 : Int32) dX4_holder_70 (by decide) ?_
          refine mg_istore (pc := 71) hC [(6, .int (0 : Int32)), (0, .ref x0), (1, .int x1), (2, .int x2), (3, .int x3), (4, .int x4), (5, .int x5)] dX4_holder_71 (by decide) rfl ?_
          refine mg_iconst (pc := 73) hC (0 : Int32) dX4_holder_73 (by decide) ?_
          refine mg_istore (pc := 74) hC [(7, .int (0 : Int32)), (6, .int (0 : Int32)), (0, .ref x0), (1, .int x1), (2, .int x2), (3, .int x3), (4, .int x4), (5, .int x5)] dX4_holder_74 (by decide) rfl ?_
          exact mg_sub (pc := 76) [2, 3, 4, 5, 6, 7, 1, 0] (L' := [(0, .ref x0), (1, .int x1), (2, .int x2), (3, .int x3), (4, .int x4), (5, .int x5), (6, .int (0 : Int32)), (7, .int (0 : Int32))]) rfl (gX4_holder_b76 hC _ _ _ ih _ _ _ _ _ _ _ _ _ _ _)
def fX4_holder (x0 : Nat) (x1 : Int32) (x2 : Int32) (x3 : Int32) (x4 : Int32) (w : mg_H) : Option (Int32) := mg_rc w 4 x0 ((fX4_isAngle x0 x1 w).bind fun v1 => if v1 = 0 then (some (-1 : Int32)) else ((fX4_in (x2.toInt64) (1 : Int64) (8 : Int64)).bind fun v2 => if v2 = 0 then (some (-1 : Int32)) else (if x3 < 0 then (some (-1 : Int32)) else ((fX4_in (x4.toInt64) (0 : Int64) (1 : Int64)).bind fun v3 => if v3 = 0 then (some (-1 : Int32)) else (fX4_holder_b40 w mg_N x0 x1 x2 x3 x4 (0 : Int32))))))
set_option maxHeartbeats 4000000 in
set_option maxRecDepth 100000 in
theorem kX4_holder {E : mg_P} {l : Launch} {x0 : Nat} {x1 : Int32} {x2 : Int32} {x3 : Int32} {x4 : Int32} {w : mg_H} {sz : Nat} {o : Int32} (hf : fX4_holder x0 x1 x2 x3 x4 w = some o) : mg_C E l yX4_holder cX4_holder 8 (some .int) 2 53 [.ref x0, .int x1, .int x2, .int x3, .int x4] w sz ((mg_oR mg_vI w) o) := by
  refine mg_meth (out := (mg_oR mg_vI w)) (by decide) (Nat.le_of_ble_eq_true rfl) hf ?_
  intro p e C S s m below meth c hC hin
  have hC : mg_Cx E p s m _ meth c cX4_holder 8 (some .int) RX4 := hC
  unfold fX4_holder
  refine mg_sub (pc := 0) [0, 1, 2, 3, 4] (L' := [(0, .ref x0), (1, .int x1), (2, .int x2), (3, .int x3), (4, .int x4)]) rfl ?_
  refine mg_aload_n (pc := 0) hC 0 dX4_holder_0 rfl ?_
  refine mg_iload_n (pc := 1) hC 1 dX4_holder_1 rfl ?_
  refine mg_recv (ci := 4) (fun hb => ?_)
  refine mg_cRI (pc := 2) (fun r hr => mg_VR (rest := []) (av := [.int x1]) (ci := 4) hC wdX4_isAngle mw_496 dX4_holder_2 rfl rfl ⟨Nat.le_of_ble_eq_true rfl, Nat.le_of_ble_eq_true rfl⟩ (Nat.le_of_ble_eq_true rfl) hb (kX4_isAngle hr)) (fun v1 _ => ?_)
  refine mg_if_eq (pc := 5) hC 35 dX4_holder_5 (by decide) (fun _ => ?_) (fun _ => ?_)
  · refine mg_iconst (pc := 35) hC (-1 : Int32) dX4_holder_35 (by decide) ?_
    exact mg_iret (pc := 36) hC rfl dX4_holder_36
  · refine mg_iload_n (pc := 8) hC 2 dX4_holder_8 rfl ?_
    refine mg_i2l (pc := 9) hC dX4_holder_9 ?_
    refine mg_lconst (pc := 10) hC (1 : Int64) dX4_holder_10 (by decide) ?_
    refine mg_ldc2 (pc := 11) hC (8 : Int64) dX4_holder_11 mw_563 ?_
    refine mg_cRI (pc := 14) (fun r hr => mg_S (rest := []) hC wdX4_in mw_426 mw_425 dX4_holder_14 rfl rfl ⟨Nat.le_of_ble_eq_true rfl, Nat.le_of_ble_eq_true rfl⟩ (Nat.le_of_ble_eq_true rfl) (kX4_in hr)) (fun v2 _ => ?_)
    refine mg_if_eq (pc := 17) hC 35 dX4_holder_17 (by decide) (fun _ => ?_) (fun _ => ?_)
    · refine mg_iconst (pc := 35) hC (-1 : Int32) dX4_holder_35 (by decide) ?_
      exact mg_iret (pc := 36) hC rfl dX4_holder_36
    · refine mg_iload_n (pc := 20) hC 3 dX4_holder_20 rfl ?_
      refine mg_if_lt (pc := 21) hC 35 dX4_holder_21 (by decide) (fun _ => ?_) (fun _ => ?_)
      · refine mg_iconst (pc := 35) hC (-1 : Int32) dX4_holder_35 (by decide) ?_
        exact mg_iret (pc := 36) hC rfl dX4_holder_36
      · refine mg_iload (pc := 24) hC 4 dX4_holder_24 rfl ?_
        refine mg_i2l (pc := 26) hC dX4_holder_26 ?_
        refine mg_lconst (pc := 27) hC (0 : Int64) dX4_holder_27 (by decide) ?_
        refine mg_lconst (pc := 28) hC (1 : Int64) dX4_holder_28 (by decide) ?_
        refine mg_cRI (pc := 29) (fun r hr => mg_S (rest := []) hC wdX4_in mw_426 mw_425 dX4_holder_29 rfl rfl ⟨Nat.le_of_ble_eq_true rfl, Nat.le_of_ble_eq_true rfl⟩ (Nat.le_of_ble_eq_true rfl) (kX4_in hr)) (fun v3 _ => ?_)
        refine mg_if_ne (pc := 32) hC 37 dX4_holder_32 (by decide) (fun _ => ?_) (fun _ => ?_)
        · refine mg_iconst (pc := 35) hC (-1 : Int32) dX4_holder_35 (by decide) ?_
          exact mg_iret (pc := 36) hC rfl dX4_holder_36
        · refine mg_iconst (pc := 37) hC (0 : Int32) dX4_holder_37 (by decide) ?_
          refine mg_istore (pc := 38) hC [(5, .int (0 : Int32)), (0, .ref x0), (1, .int x1), (2, .int x2), (3, .int x3), (4, .int x4)] dX4_holder_38 (by decide) rfl ?_
          exact mg_sub (pc := 40) [1, 2, 3, 4, 5, 0] (L' := [(0, .ref x0), (1, .int x1), (2, .int x2), (3, .int x3), (4, .int x4), (5, .int (0 : Int32))]) rfl (gX4_holder_b40 hC _ _  _ _ _ _ _ _ _ _ _)
theorem wdX4_holder : mg_WdV 4 yX4_holder cX4_holder 8 (some .int) 4 := ⟨⟨mw_592, mw_2, by decide, by decide, by decide +kernel⟩, _, rfl, mw_590, mw_591⟩
def fX4_holds (x0 : Nat) (x1 : Int32) (x2 : Int32) (w : mg_H) : Option (Int32) := mg_rc w 4 x0 ((fX4_isAngle x0 x1 w).bind fun v1 => if v1 = 0 then (some (-1 : Int32)) else (mg_rc w 4 x0 ((fX4_isAngle x0 x2 w).bind fun v2 => if v2 = 0 then (some (-1 : Int32)) else (mg_rc w 4 x0 ((fX4_pairOf x0 x1 w).bind fun v3 => mg_rc w 4 x0 ((fX4_pairOf x0 x2 w).bind fun v4 => if v3 = (-4 : Int32) then (some (-2 : Int32)) else (if v4 = (-4 : Int32) then (some (-2 : Int32)) else (mg_rc w 4 x0 ((fX4_isOrHolds x0 v3 v4 w).bind fun v5 => if v5 = 0 then (some (0 : Int32)) else (some (1 : Int32)))))))))))
set_option maxHeartbeats 4000000 in
set_option maxRecDepth 100000 in
theorem kX4_holds {E : mg_P} {l : Launch} {x0 : Nat} {x1 : Int32} {x2 : Int32} {w : mg_H} {sz : Nat} {o : Int32} (hf : fX4_holds x0 x1 x2 w = some o) : mg_C E l yX4_holds cX4_holds 5 (some .int) 2 53 [.ref x0, .int x1, .int x2] w sz ((mg_oR mg_vI w) o) := by
  refine mg_meth (out := (mg_oR mg_vI w)) (by decide) (Nat.le_of_ble_eq_true rfl) hf ?_
  intro p e C S s m below meth c hC hin
  have hC : mg_Cx E p s m _ meth c cX4_holds 5 (some .int) RX4 := hC
  unfold fX4_holds
  refine mg_sub (pc := 0) [0, 1, 2] (L' := [(0, .ref x0), (1, .int x1), (2, .int x2)]) rfl ?_
  refine mg_aload_n (pc := 0) hC 0 dX4_holds_0 rfl ?_
  refine mg_iload_n (pc := 1) hC 1 dX4_holds_1 rfl ?_
  refine mg_recv (ci := 4) (fun hb => ?_)
  refine mg_cRI (pc := 2) (fun r hr => mg_VR (rest := []) (av := [.int x1]) (ci := 4) hC wdX4_isAngle mw_496 dX4_holds_2 rfl rfl ⟨Nat.le_of_ble_eq_true rfl, Nat.le_of_ble_eq_true rfl⟩ (Nat.le_of_ble_eq_true rfl) hb (kX4_isAngle hr)) (fun v1 _ => ?_)
  refine mg_if_eq (pc := 5) hC 16 dX4_holds_5 (by decide) (fun _ => ?_) (fun _ => ?_)
  · refine mg_iconst (pc := 16) hC (-1 : Int32) dX4_holds_16 (by decide) ?_
    exact mg_iret (pc := 17) hC rfl dX4_holds_17
  · refine mg_aload_n (pc := 8) hC 0 dX4_holds_8 rfl ?_
    refine mg_iload_n (pc := 9) hC 2 dX4_holds_9 rfl ?_
    refine mg_recv (ci := 4) (fun hb => ?_)
    refine mg_cRI (pc := 10) (fun r hr => mg_VR (rest := []) (av := [.int x2]) (ci := 4) hC wdX4_isAngle mw_496 dX4_holds_10 rfl rfl ⟨Nat.le_of_ble_eq_true rfl, Nat.le_of_ble_eq_true rfl⟩ (Nat.le_of_ble_eq_true rfl) hb (kX4_isAngle hr)) (fun v2 _ => ?_)
    refine mg_if_ne (pc := 13) hC 18 dX4_holds_13 (by decide) (fun _ => ?_) (fun _ => ?_)
    · refine mg_iconst (pc := 16) hC (-1 : Int32) dX4_holds_16 (by decide) ?_
      exact mg_iret (pc := 17) hC rfl dX4_holds_17
    · refine mg_aload_n (pc := 18) hC 0 dX4_holds_18 rfl ?_
      refine mg_iload_n (pc := 19) hC 1 dX4_holds_19 rfl ?_
      refine mg_recv (ci := 4) (fun hb => ?_)
      refine mg_cRI (pc := 20) (fun r hr => mg_VR (rest := []) (av := [.int x1]) (ci := 4) hC wdX4_pairOf mw_577 dX4_holds_20 rfl rfl ⟨Nat.le_of_ble_eq_true rfl, Nat.le_of_ble_eq_true rfl⟩ (Nat.le_of_ble_eq_true rfl) hb (kX4_pairOf hr)) (fun v3 _ => ?_)
      refine mg_istore_n (pc := 23) hC [(3, .int v3), (0, .ref x0), (1, .int x1), (2, .int x2)] dX4_holds_23 (by decide) rfl ?_
      refine mg_aload_n (pc := 24) hC 1 dX4_holds_24 rfl ?_
      refine mg_iload_n (pc := 25) hC 3 dX4_holds_25 rfl ?_
      refine mg_recv (ci := 4) (fun hb => ?_)
      refine mg_cRI (pc := 26) (fun r hr => mg_VR (rest := []) (av := [.int x2]) (ci := 4) hC wdX4_pairOf mw_577 dX4_holds_26 rfl rfl ⟨Nat.le_of_ble_eq_true rfl, Nat.le_of_ble_eq_true rfl⟩ (Nat.le_of_ble_eq_true rfl) hb (kX4_pairOf hr)) (fun v4 _ => ?_)
      refine mg_istore (pc := 29) hC [(4, .int v4), (3, .int v3), (0, .ref x0), (1, .int x1), (2, .int x2)] dX4_holds_29 (by decide) rfl ?_
      refine mg_iload_n (pc := 31) hC 1 dX4_holds_31 rfl ?_
      refine mg_bipush (pc := 32) hC (-4 : Int32) dX4_holds_32 (by decide) ?_
      refine mg_icmp_eq (pc := 34) hC 44 dX4_holds_34 (by decide) (fun _ => ?_) (fun _ => ?_)
      · refine mg_bipush (pc := 44) hC (-2 : Int32) dX4_holds_44 (by decide) ?_
        refine mg_goto (pc := 46) hC 64 dX4_holds_46 (by decide) ?_
        exact mg_iret (pc := 64) hC rfl dX4_holds_64
      · refine mg_iload (pc := 37) hC 0 dX4_holds_37 rfl ?_
        refine mg_bipush (pc := 39) hC (-4 : Int32) dX4_holds_39 (by decide) ?_
        refine mg_icmp_ne (pc := 41) hC 49 dX4_holds_41 (by decide) (fun _ => ?_) (fun _ => ?_)
        · refine mg_bipush (pc := 44) hC (-2 : Int32) dX4_holds_44 (by decide) ?_
          refine mg_goto (pc := 46) hC 64 dX4_holds_46 (by decide) ?_
          exact mg_iret (pc := 64) hC rfl dX4_holds_64
        · refine mg_aload_n (pc := 49) hC 2 dX4_holds_49 rfl ?_
          refine mg_iload_n (pc := 50) hC 1 dX4_holds_50 rfl ?_
          refine mg_iload (pc := 51) hC 0 dX4_holds_51 rfl ?_
          refine mg_recv (ci := 4) (fun hb => ?_)
          refine mg_cRI (pc := 53) (fun r hr => mg_VR (rest := []) (av := [.int v3, .int v4]) (ci := 4) hC wdX4_isOrHolds mw_593 dX4_holds_53 rfl rfl ⟨Nat.le_of_ble_eq_true rfl, Nat.le_of_ble_eq_true rfl⟩ (Nat.le_of_ble_eq_true rfl) hb (kX4_isOrHolds hr)) (fun v5 _ => ?_)
          refine mg_if_eq (pc := 56) hC 63 dX4_holds_56 (by decide) (fun _ => ?_) (fun _ => ?_)
          · refine mg_iconst (pc := 63) hC (0 : Int32) dX4_holds_63 (by decide) ?_
            exact mg_iret (pc := 64) hC rfl dX4_holds_64
          · refine mg_iconst (pc := 59) hC (1 : Int32) dX4_holds_59 (by decide) ?_
            refine mg_goto (pc := 60) hC 64 dX4_holds_60 (by decide) ?_
            exact mg_iret (pc := 64) hC rfl dX4_holds_64
theorem wdX4_holds : mg_WdV 4 yX4_holds cX4_holds 5 (some .int) 2 := ⟨⟨mw_600, mw_2, by decide, by decide, by decide +kernel⟩, _, rfl, mw_598, mw_599⟩
end MG10
