section MG06
variable {E : mg_P} {p : Program} {l : Launch} {e : Env} {C S : Nat} {s : State} {m : MethodId} {args : Array Value} {below : List Frame} {meth : Method} {c : Code}
def fX3_sheet (x0 : Nat) (x1 : Int32) (x2 : Int32) (x3 : Int32) (w : mg_H) (sz : Nat) : Option (Int32 × mg_H × Nat × Nat) := (fX3_isSheet x1).bind fun v1 => if v1 = 0 then (some ((-1 : Int32), w, 0, 0)) else ((fX3_isLane x2).bind fun v2 => if v2 = 0 then (some ((-1 : Int32), w, 0, 0)) else (if x3 ≤ (60 : Int32) then (if 0 ≤ x3 then (mg_gN w 3 x0 1 fun v3 => mg_nw w sz 1 [.int 0, .null] 2 fun w4 => mg_bA (fX1_init sz x2 x3 w4 (sz + 1)) fun _ w6 kc7 ks8 => (mg_stQ w6 4 1 v3 x1 sz).bind fun w9 => some ((1 : Int32), w9, 0, 0)) else (some ((-14 : Int32), w, 0, 0))) else (some ((-1 : Int32), w, 0, 0))))
set_option maxHeartbeats 4000000 in
set_option maxRecDepth 100000 in
theorem kX3_sheet {E : mg_P} {l : Launch} {x0 : Nat} {x1 : Int32} {x2 : Int32} {x3 : Int32} {w : mg_H} {sz : Nat} {o : Int32 × mg_H × Nat × Nat} (hf : fX3_sheet x0 x1 x2 x3 w sz = some o) : mg_C E l yX3_sheet cX3_sheet 4 (some .int) 2 43 [.ref x0, .int x1, .int x2, .int x3] w sz ((mg_oA mg_vI) o) := by
  refine mg_meth (out := (mg_oA mg_vI)) (by decide) (Nat.le_of_ble_eq_true rfl) hf ?_
  intro p e C S s m below meth c hC hin
  have hC : mg_Cx E p s m _ meth c cX3_sheet 4 (some .int) RX3 := hC
  unfold fX3_sheet
  refine mg_sub (pc := 0) [0, 1, 2, 3] (L' := [(0, .ref x0), (1, .int x1), (2, .int x2), (3, .int x3)]) rfl ?_
  refine mg_iload_n (pc := 0) hC 1 dX3_sheet_0 rfl ?_
  refine mg_cRI (pc := 1) (fun r hr => mg_S (rest := []) hC wdX3_isSheet mw_354 mw_353 dX3_sheet_1 rfl rfl ⟨Nat.le_of_ble_eq_true rfl, Nat.le_of_ble_eq_true rfl⟩ (Nat.le_of_ble_eq_true rfl) (kX3_isSheet hr)) (fun v1 _ => ?_)
  refine mg_if_eq (pc := 4) hC 20 dX3_sheet_4 (by decide) (fun _ => ?_) (fun _ => ?_)
  · refine mg_iconst (pc := 20) hC (-1 : Int32) dX3_sheet_20 (by decide) ?_
    exact mg_iret (pc := 21) hC rfl dX3_sheet_21
  · refine mg_iload_n (pc := 7) hC 2 dX3_sheet_7 rfl ?_
    refine mg_cRI (pc := 8) (fun r hr => mg_S (rest := []) hC wdX3_isLane mw_357 mw_356 dX3_sheet_8 rfl rfl ⟨Nat.le_of_ble_eq_true rfl, Nat.le_of_ble_eq_true rfl⟩ (Nat.le_of_ble_eq_true rfl) (kX3_isLane hr)) (fun v2 _ => ?_)
    refine mg_if_eq (pc := 11) hC 20 dX3_sheet_11 (by decide) (fun _ => ?_) (fun _ => ?_)
    · refine mg_iconst (pc := 20) hC (-1 : Int32) dX3_sheet_20 (by decide) ?_
      exact mg_iret (pc := 21) hC rfl dX3_sheet_21
    · refine mg_iload_n (pc := 14) hC 3 dX3_sheet_14 rfl ?_
      refine mg_bipush (pc := 15) hC (60 : Int32) dX3_sheet_15 (by decide) ?_
      refine mg_icmp_le (pc := 17) hC 22 dX3_sheet_17 (by decide) (fun _ => ?_) (fun _ => ?_)
      · refine mg_iload_n (pc := 22) hC 3 dX3_sheet_22 rfl ?_
        refine mg_if_ge (pc := 23) hC 29 dX3_sheet_23 (by decide) (fun _ => ?_) (fun _ => ?_)
        · refine mg_aload_n (pc := 29) hC 0 dX3_sheet_29 rfl ?_
          refine mg_getNN (pc := 30) (ci := 3) (k := 1) hC mi_3 rfl (by decide) mw_20 dX3_sheet_30 (fun v3 _ => ?_)
          refine mg_iload_n (pc := 33) hC 1 dX3_sheet_33 rfl ?_
          refine mg_newO (pc := 34) (ci := 1) hC mi_1 rfl tyX1 tyX1_ok [.int 0, .null] (fun j hj => by rcases (show j = 0 ∨ j = 1 by omega) with rfl | rfl <;> rfl) mw_17 mw_359 mw_6 dX3_sheet_34 ?_
          refine mg_dup (pc := 37) hC dX3_sheet_37 rfl ?_
          refine mg_iload_n (pc := 38) hC 2 dX3_sheet_38 rfl ?_
          refine mg_iload_n (pc := 39) hC 3 dX3_sheet_39 rfl ?_
          refine mg_cAV (pc := 40) (fun r hr => mg_I (rest := [.ref sz, .int x1, .ref v3]) (av := [.int x2, .int x3]) hC wdX1_init mw_361 mw_360 dX3_sheet_40 rfl rfl ⟨Nat.le_of_ble_eq_true rfl, Nat.le_of_ble_eq_true rfl⟩ (Nat.le_of_ble_eq_true rfl) rfl (kX1_init hr)) (fun _ w6 kc7 ks8 _ => ?_)
          refine mg_aast4 (pc := 43) hC dX3_sheet_43 (fun w9 _ => ?_)
          refine mg_iconst (pc := 44) hC (1 : Int32) dX3_sheet_44 (by decide) ?_
          exact mg_iret (pc := 45) hC rfl dX3_sheet_45
        · refine mg_bipush (pc := 26) hC (-14 : Int32) dX3_sheet_26 (by decide) ?_
          exact mg_iret (pc := 28) hC rfl dX3_sheet_28
      · refine mg_iconst (pc := 20) hC (-1 : Int32) dX3_sheet_20 (by decide) ?_
        exact mg_iret (pc := 21) hC rfl dX3_sheet_21
theorem wdX3_sheet : mg_WdV 3 yX3_sheet cX3_sheet 4 (some .int) 3 := ⟨⟨mw_352, mw_1, by decide, by decide, by decide +kernel⟩, _, rfl, mw_350, mw_351⟩
def fX3_lay (x0 : Nat) (x1 : Int32) (x2 : Int32) (x3 : Int64) (w : mg_H) : Option (Int32 × mg_H) := (fX3_isSheet x1).bind fun v1 => if v1 = 0 then (some ((-1 : Int32), w)) else (mg_gN w 3 x0 1 fun v2 => (mg_ldQ w 4 v2 x1).bind fun v3 => mg_if0 v3 (some ((-11 : Int32), w)) (fun a4 => mg_rc w 1 a4 ((fX1_hasCell a4 (x2.toInt64) w).bind fun v5 => if v5 = 0 then (some ((-12 : Int32), w)) else (mg_gN w 1 a4 1 fun v6 => (mg_gI w 1 a4 0).bind fun v7 => if v7 = 0 then ((mg_stL w v6 x2 ((x3.toInt32).toInt64)).bind fun w8 => some ((1 : Int32), w8)) else ((mg_stL w v6 x2 x3).bind fun w9 => some ((1 : Int32), w9))))))
set_option maxHeartbeats 4000000 in
set_option maxRecDepth 100000 in
theorem kX3_lay {E : mg_P} {l : Launch} {x0 : Nat} {x1 : Int32} {x2 : Int32} {x3 : Int64} {w : mg_H} {sz : Nat} {o : Int32 × mg_H} (hf : fX3_lay x0 x1 x2 x3 w = some o) : mg_C E l yX3_lay cX3_lay 6 (some .int) 1 22 [.ref x0, .int x1, .int x2, .long x3] w sz ((mg_oS mg_vI) o) := by
  refine mg_meth (out := (mg_oS mg_vI)) (by decide) (Nat.le_of_ble_eq_true rfl) hf ?_
  intro p e C S s m below meth c hC hin
  have hC : mg_Cx E p s m _ meth c cX3_lay 6 (some .int) RX3 := hC
  unfold fX3_lay
  refine mg_sub (pc := 0) [0, 1, 2, 3] (L' := [(0, .ref x0), (1, .int x1), (2, .int x2), (3, .long x3)]) rfl ?_
  refine mg_iload_n (pc := 0) hC 1 dX3_lay_0 rfl ?_
  refine mg_cRI (pc := 1) (fun r hr => mg_S (rest := []) hC wdX3_isSheet mw_354 mw_353 dX3_lay_1 rfl rfl ⟨Nat.le_of_ble_eq_true rfl, Nat.le_of_ble_eq_true rfl⟩ (Nat.le_of_ble_eq_true rfl) (kX3_isSheet hr)) (fun v1 _ => ?_)
  refine mg_if_ne (pc := 4) hC 9 dX3_lay_4 (by decide) (fun _ => ?_) (fun _ => ?_)
  · refine mg_iconst (pc := 7) hC (-1 : Int32) dX3_lay_7 (by decide) ?_
    exact mg_iret (pc := 8) hC rfl dX3_lay_8
  · refine mg_aload_n (pc := 9) hC 0 dX3_lay_9 rfl ?_
    refine mg_getNN (pc := 10) (ci := 3) (k := 1) hC mi_3 rfl (by decide) mw_20 dX3_lay_10 (fun v2 _ => ?_)
    refine mg_iload_n (pc := 13) hC 1 dX3_lay_13 rfl ?_
    refine mg_aald4 (pc := 14) hC dX3_lay_14 (fun v3 _ => ?_)
    refine mg_astoreQ (pc := 15) hC [(5, va_rf v3), (0, .ref x0), (1, .int x1), (2, .int x2), (3, .long x3)] dX3_lay_15 (by decide) rfl ?_
    refine mg_aloadQ (pc := 17) hC 0 dX3_lay_17 rfl ?_
    refine mg_ifnonnull (pc := 19) hC 25 dX3_lay_19 (by decide) (fun hq => ?_) (fun a4 hq => ?_)
    · subst hq
      refine mg_bipush (pc := 22) hC (-11 : Int32) dX3_lay_22 (by decide) ?_
      exact mg_iret (pc := 24) hC rfl dX3_lay_24
    · subst hq
      refine mg_aload (pc := 25) hC 0 dX3_lay_25 rfl ?_
      refine mg_iload_n (pc := 27) hC 3 dX3_lay_27 rfl ?_
      refine mg_i2l (pc := 28) hC dX3_lay_28 ?_
      refine mg_recv (ci := 1) (fun hb => ?_)
      refine mg_cRI (pc := 29) (fun r hr => mg_VR (rest := []) (av := [.long (x2.toInt64)]) (ci := 1) hC wdX1_hasCell mw_379 dX3_lay_29 rfl rfl ⟨Nat.le_of_ble_eq_true rfl, Nat.le_of_ble_eq_true rfl⟩ (Nat.le_of_ble_eq_true rfl) hb (kX1_hasCell hr)) (fun v5 _ => ?_)
      refine mg_if_ne (pc := 32) hC 38 dX3_lay_32 (by decide) (fun _ => ?_) (fun _ => ?_)
      · refine mg_bipush (pc := 35) hC (-12 : Int32) dX3_lay_35 (by decide) ?_
        exact mg_iret (pc := 37) hC rfl dX3_lay_37
      · refine mg_aload (pc := 38) hC 0 dX3_lay_38 rfl ?_
        refine mg_getNN (pc := 40) (ci := 1) (k := 1) hC mi_1 rfl (by decide) mw_368 dX3_lay_40 (fun v6 _ => ?_)
        refine mg_iload_n (pc := 43) hC 3 dX3_lay_43 rfl ?_
        refine mg_aload (pc := 44) hC 0 dX3_lay_44 rfl ?_
        refine mg_getI (pc := 46) (ci := 1) (k := 0) hC mi_1 rfl (by decide) mw_366 dX3_lay_46 (fun v7 _ => ?_)
        refine mg_if_ne (pc := 49) hC 58 dX3_lay_49 (by decide) (fun _ => ?_) (fun _ => ?_)
        · refine mg_lload_n (pc := 52) hC 4 dX3_lay_52 rfl ?_
          refine mg_l2i (pc := 53) hC dX3_lay_53 ?_
          refine mg_i2l (pc := 54) hC dX3_lay_54 ?_
          refine mg_goto (pc := 55) hC 59 dX3_lay_55 (by decide) ?_
          refine mg_last (pc := 59) hC dX3_lay_59 (fun w8 _ => ?_)
          refine mg_iconst (pc := 60) hC (1 : Int32) dX3_lay_60 (by decide) ?_
          exact mg_iret (pc := 61) hC rfl dX3_lay_61
        · refine mg_lload_n (pc := 58) hC 4 dX3_lay_58 rfl ?_
          refine mg_last (pc := 59) hC dX3_lay_59 (fun w9 _ => ?_)
          refine mg_iconst (pc := 60) hC (1 : Int32) dX3_lay_60 (by decide) ?_
          exact mg_iret (pc := 61) hC rfl dX3_lay_61
theorem wdX3_lay : mg_WdV 3 yX3_lay cX3_lay 6 (some .int) 3 := ⟨⟨mw_378, mw_1, by decide, by decide, by decide +kernel⟩, _, rfl, mw_376, mw_377⟩
def fX3_readAngle (x0 : Nat) (x1 : Nat) (x2 : Int64) (w : mg_H) (sz : Nat) : Option (Int32 × mg_H × Nat × Nat) := mg_rc w 1 x1 ((fX1_hasCell x1 x2 w).bind fun v1 => if v1 = 0 then (some ((-12 : Int32), w, 0, 0)) else (mg_rc w 1 x1 ((fX1_hasCell x1 (x2 + (1 : Int64)) w).bind fun v2 => if v2 = 0 then (some ((-12 : Int32), w, 0, 0)) else (mg_gN w 1 x1 1 fun v3 => (mg_ldL w v3 (x2.toInt32)).bind fun v4 => mg_gN w 1 x1 1 fun v5 => (mg_ldL w v5 ((x2.toInt32) + (1 : Int32))).bind fun v6 => mg_rc w 3 x0 (mg_bA (fX3_angle x0 v4 v6 w sz) fun v7 w8 kc9 ks10 => if 0 ≤ v7 then (some (v7, w8, 0, 0)) else (some (((-20 : Int32) + v7), w8, 0, 0)))))))
set_option maxHeartbeats 4000000 in
set_option maxRecDepth 100000 in
theorem kX3_readAngle {E : mg_P} {l : Launch} {x0 : Nat} {x1 : Nat} {x2 : Int64} {w : mg_H} {sz : Nat} {o : Int32 × mg_H × Nat × Nat} (hf : fX3_readAngle x0 x1 x2 w sz = some o) : mg_C E l yX3_readAngle cX3_readAngle 5 (some .int) 5 119 [.ref x0, .ref x1, .long x2] w sz ((mg_oA mg_vI) o) := by
  refine mg_meth (out := (mg_oA mg_vI)) (by decide) (Nat.le_of_ble_eq_true rfl) hf ?_
  intro p e C S s m below meth c hC hin
  have hC : mg_Cx E p s m _ meth c cX3_readAngle 5 (some .int) RX3 := hC
  unfold fX3_readAngle
  refine mg_sub (pc := 0) [0, 1, 2] (L' := [(0, .ref x0), (1, .ref x1), (2, .long x2)]) rfl ?_
  refine mg_aload_n (pc := 0) hC 1 dX3_readAngle_0 rfl ?_
  refine mg_lload_n (pc := 1) hC 2 dX3_readAngle_1 rfl ?_
  refine mg_recv (ci := 1) (fun hb => ?_)
  refine mg_cRI (pc := 2) (fun r hr => mg_VR (rest := []) (av := [.long x2]) (ci := 1) hC wdX1_hasCell mw_379 dX3_readAngle_2 rfl rfl ⟨Nat.le_of_ble_eq_true rfl, Nat.le_of_ble_eq_true rfl⟩ (Nat.le_of_ble_eq_true rfl) hb (kX1_hasCell hr)) (fun v1 _ => ?_)
  refine mg_if_eq (pc := 5) hC 18 dX3_readAngle_5 (by decide) (fun _ => ?_) (fun _ => ?_)
  · refine mg_bipush (pc := 18) hC (-12 : Int32) dX3_readAngle_18 (by decide) ?_
    exact mg_iret (pc := 20) hC rfl dX3_readAngle_20
  · refine mg_aload_n (pc := 8) hC 1 dX3_readAngle_8 rfl ?_
    refine mg_lload_n (pc := 9) hC 2 dX3_readAngle_9 rfl ?_
    refine mg_lconst (pc := 10) hC (1 : Int64) dX3_readAngle_10 (by decide) ?_
    refine mg_ladd (pc := 11) hC dX3_readAngle_11 ?_
    refine mg_recv (ci := 1) (fun hb => ?_)
    refine mg_cRI (pc := 12) (fun r hr => mg_VR (rest := []) (av := [.long (x2 + (1 : Int64))]) (ci := 1) hC wdX1_hasCell mw_379 dX3_readAngle_12 rfl rfl ⟨Nat.le_of_ble_eq_true rfl, Nat.le_of_ble_eq_true rfl⟩ (Nat.le_of_ble_eq_true rfl) hb (kX1_hasCell hr)) (fun v2 _ => ?_)
    refine mg_if_ne (pc := 15) hC 21 dX3_readAngle_15 (by decide) (fun _ => ?_) (fun _ => ?_)
    · refine mg_bipush (pc := 18) hC (-12 : Int32) dX3_readAngle_18 (by decide) ?_
      exact mg_iret (pc := 20) hC rfl dX3_readAngle_20
    · refine mg_aload_n (pc := 21) hC 0 dX3_readAngle_21 rfl ?_
      refine mg_aload_n (pc := 22) hC 1 dX3_readAngle_22 rfl ?_
      refine mg_getNN (pc := 23) (ci := 1) (k := 1) hC mi_1 rfl (by decide) mw_368 dX3_readAngle_23 (fun v3 _ => ?_)
      refine mg_lload_n (pc := 26) hC 2 dX3_readAngle_26 rfl ?_
      refine mg_l2i (pc := 27) hC dX3_readAngle_27 ?_
      refine mg_lald (pc := 28) hC dX3_readAngle_28 (fun v4 _ => ?_)
      refine mg_aload_n (pc := 29) hC 1 dX3_readAngle_29 rfl ?_
      refine mg_getNN (pc := 30) (ci := 1) (k := 1) hC mi_1 rfl (by decide) mw_368 dX3_readAngle_30 (fun v5 _ => ?_)
      refine mg_lload_n (pc := 33) hC 2 dX3_readAngle_33 rfl ?_
      refine mg_l2i (pc := 34) hC dX3_readAngle_34 ?_
      refine mg_iconst (pc := 35) hC (1 : Int32) dX3_readAngle_35 (by decide) ?_
      refine mg_iadd (pc := 36) hC dX3_readAngle_36 ?_
      refine mg_lald (pc := 37) hC dX3_readAngle_37 (fun v6 _ => ?_)
      refine mg_recv (ci := 3) (fun hb => ?_)
      refine mg_cAI (pc := 38) (fun r hr => mg_VR (rest := []) (av := [.long v4, .long v6]) (ci := 3) hC wdX3_angle mw_391 dX3_readAngle_38 rfl rfl ⟨Nat.le_of_ble_eq_true rfl, Nat.le_of_ble_eq_true rfl⟩ (Nat.le_of_ble_eq_true rfl) hb (kX3_angle hr)) (fun v7 w8 kc9 ks10 _ => ?_)
      refine mg_istore (pc := 41) hC [(4, .int v7), (0, .ref x0), (1, .ref x1), (2, .long x2)] dX3_readAngle_41 (by decide) rfl ?_
      refine mg_iload (pc := 43) hC 0 dX3_readAngle_43 rfl ?_
      refine mg_if_ge (pc := 45) hC 56 dX3_readAngle_45 (by decide) (fun _ => ?_) (fun _ => ?_)
      · refine mg_iload (pc := 56) hC 0 dX3_readAngle_56 rfl ?_
        exact mg_iret (pc := 58) hC rfl dX3_readAngle_58
      · refine mg_bipush (pc := 48) hC (-20 : Int32) dX3_readAngle_48 (by decide) ?_
        refine mg_iload (pc := 50) hC 0 dX3_readAngle_50 rfl ?_
        refine mg_iadd (pc := 52) hC dX3_readAngle_52 ?_
        refine mg_goto (pc := 53) hC 58 dX3_readAngle_53 (by decide) ?_
        exact mg_iret (pc := 58) hC rfl dX3_readAngle_58
theorem wdX3_readAngle : mg_WdV 3 yX3_readAngle cX3_readAngle 5 (some .int) 2 := ⟨⟨mw_390, mw_1, by decide, by decide, by decide +kernel⟩, _, rfl, mw_389, mw_p14⟩
def fX3_scan_b65 : Nat → Nat → Int32 → Int32 → Nat → Int32 → Int32 → mg_H → Nat → Option (Int32 × mg_H × Nat × Nat)
  | 0, _, _, _, _, _, _, _, _ => none
  | n + 1, x0, x3, x4, x5, x6, x7, w, sz => if x4 ≤ x7 then ((mg_gI w 3 x0 3).bind fun v1 => some (v1, w, 0, 0)) else (mg_rc w 3 x0 (mg_bA (fX3_readAngle x0 x5 ((x3.toInt64) + ((2 : Int64) * (x7.toInt64))) w sz) fun v2 w3 kc4 ks5 => if 0 ≤ v2 then (fX3_scan_b65 n x0 x3 x4 x5 x6 (x7 + (1 : Int32)) w3 (sz + kc4)) else ((mg_pI w3 3 x0 3 x6).bind fun w6 => some (v2, w6, 0, 0))))
set_option maxHeartbeats 4000000 in
set_option maxRecDepth 100000 in
theorem gX3_scan_b65 (hC : mg_Cx E p s m args meth c cX3_scan 9 (some .int) RX3) : ∀ (n : Nat) (x0 : Nat) (x3 : Int32) (x4 : Int32) (x5 : Nat) (x6 : Int32) (x7 : Int32) (w : mg_H) (sz : Nat) (cells slots : Nat), mg_G E p l e ({ frames := 6, cells := C, slots := S, locals := 143 } : Room) s m args below meth c 9 (mg_oA mg_vI) (fX3_scan_b65 n x0 x3 x4 x5 x6 x7 w sz) w sz cells slots 65 [(0, .ref x0), (3, .int x3), (4, .int x4), (5, .ref x5), (6, .int x6), (7, .int x7)] [] := by
  intro n
  induction n with
  | zero => intros; exact fun o hf => by rw [fX3_scan_b65] at hf; cases hf
  | succ n ih =>
    intro x0 x3 x4 x5 x6 x7 w sz cells slots
    rw [fX3_scan_b65]
    refine mg_iload (pc := 65) hC 5 dX3_scan_65 rfl ?_
    refine mg_iload (pc := 67) hC 2 dX3_scan_67 rfl ?_
    refine mg_icmp_ge (pc := 69) hC 110 dX3_scan_69 (by decide) (fun _ => ?_) (fun _ => ?_)
    · refine mg_aload_n (pc := 110) hC 0 dX3_scan_110 rfl ?_
      refine mg_getI (pc := 111) (ci := 3) (k := 3) hC mi_3 rfl (by decide) mw_22 dX3_scan_111 (fun v1 _ => ?_)
      exact mg_iret (pc := 114) hC rfl dX3_scan_114
    · refine mg_aload_n (pc := 72) hC 0 dX3_scan_72 rfl ?_
      refine mg_aload (pc := 73) hC 3 dX3_scan_73 rfl ?_
      refine mg_iload_n (pc := 75) hC 1 dX3_scan_75 rfl ?_
      refine mg_i2l (pc := 76) hC dX3_scan_76 ?_
      refine mg_ldc2 (pc := 77) hC (2 : Int64) dX3_scan_77 mw_348 ?_
      refine mg_iload (pc := 80) hC 5 dX3_scan_80 rfl ?_
      refine mg_i2l (pc := 82) hC dX3_scan_82 ?_
      refine mg_lmul (pc := 83) hC dX3_scan_83 ?_
      refine mg_ladd (pc := 84) hC dX3_scan_84 ?_
      refine mg_recv (ci := 3) (fun hb => ?_)
      refine mg_cAI (pc := 85) (fun r hr => mg_VR (rest := []) (av := [.ref x5, .long ((x3.toInt64) + ((2 : Int64) * (x7.toInt64)))]) (ci := 3) hC wdX3_readAngle mw_387 dX3_scan_85 rfl rfl ⟨Nat.le_of_ble_eq_true rfl, Nat.le_of_ble_eq_true rfl⟩ (Nat.le_of_ble_eq_true rfl) hb (kX3_readAngle hr)) (fun v2 w3 kc4 ks5 _ => ?_)
      refine mg_istore (pc := 88) hC [(8, .int v2), (0, .ref x0), (3, .int x3), (4, .int x4), (5, .ref x5), (6, .int x6), (7, .int x7)] dX3_scan_88 (by decide) rfl ?_
      refine mg_iload (pc := 90) hC 0 dX3_scan_90 rfl ?_
      refine mg_if_ge (pc := 92) hC 104 dX3_scan_92 (by decide) (fun _ => ?_) (fun _ => ?_)
      · refine mg_iinc (pc := 104) hC 6 (x7 + (1 : Int32)) [(7, .int (x7 + (1 : Int32))), (8, .int v2), (0, .ref x0), (3, .int x3), (4, .int x4), (5, .ref x5), (6, .int x6)] dX3_scan_104 rfl rfl (by decide) rfl ?_
        refine mg_goto (pc := 107) hC 65 dX3_scan_107 (by decide) ?_
        exact mg_sub (pc := 65) [2, 3, 4, 5, 6, 0] (L' := [(0, .ref x0), (3, .int x3), (4, .int x4), (5, .ref x5), (6, .int x6), (7, .int (x7 + (1 : Int32)))]) rfl (ih _ _ _ _ _ _ _ _ _ _)
      · refine mg_aload_n (pc := 95) hC 1 dX3_scan_95 rfl ?_
        refine mg_iload (pc := 96) hC 5 dX3_scan_96 rfl ?_
        refine mg_putI (pc := 98) (ci := 3) (k := 3) hC mi_3 rfl (by decide) tyX3 tyX3_ok nmX3 mw_22 dX3_scan_98 (Or.inl rfl) rfl (fun w6 _ => ?_)
        refine mg_iload (pc := 101) hC 0 dX3_scan_101 rfl ?_
        exact mg_iret (pc := 103) hC rfl dX3_scan_103
def fX3_scan (x0 : Nat) (x1 : Int32) (x2 : Int32) (x3 : Int32) (x4 : Int32) (w : mg_H) (sz : Nat) : Option (Int32 × mg_H × Nat × Nat) := (fX3_isSheet x1).bind fun v1 => if v1 = 0 then (some ((-1 : Int32), w, 0, 0)) else ((fX3_isLane x2).bind fun v2 => if v2 = 0 then (some ((-1 : Int32), w, 0, 0)) else (if x4 < 0 then (some ((-1 : Int32), w, 0, 0)) else (if x4 ≤ (16 : Int32) then (mg_gN w 3 x0 1 fun v3 => (mg_ldQ w 4 v3 x1).bind fun v4 => mg_if0 v4 (some ((-11 : Int32), w, 0, 0)) (fun a5 => (mg_gI w 1 a5 0).bind fun v6 => if v6 = x2 then ((mg_gI w 3 x0 3).bind fun v7 => fX3_scan_b65 mg_N x0 x3 x4 a5 v7 (0 : Int32) w sz) else (some ((-13 : Int32), w, 0, 0)))) else (some ((-1 : Int32), w, 0, 0)))))
set_option maxHeartbeats 4000000 in
set_option maxRecDepth 100000 in
theorem kX3_scan {E : mg_P} {l : Launch} {x0 : Nat} {x1 : Int32} {x2 : Int32} {x3 : Int32} {x4 : Int32} {w : mg_H} {sz : Nat} {o : Int32 × mg_H × Nat × Nat} (hf : fX3_scan x0 x1 x2 x3 x4 w sz = some o) : mg_C E l yX3_scan cX3_scan 9 (some .int) 6 143 [.ref x0, .int x1, .int x2, .int x3, .int x4] w sz ((mg_oA mg_vI) o) := by
  refine mg_meth (out := (mg_oA mg_vI)) (by decide) (Nat.le_of_ble_eq_true rfl) hf ?_
  intro p e C S s m below meth c hC hin
  have hC : mg_Cx E p s m _ meth c cX3_scan 9 (some .int) RX3 := hC
  unfold fX3_scan
  refine mg_sub (pc := 0) [0, 1, 2, 3, 4] (L' := [(0, .ref x0), (1, .int x1), (2, .int x2), (3, .int x3), (4, .int x4)]) rfl ?_
  refine mg_iload_n (pc := 0) hC 1 dX3_scan_0 rfl ?_
  refine mg_cRI (pc := 1) (fun r hr => mg_S (rest := []) hC wdX3_isSheet mw_354 mw_353 dX3_scan_1 rfl rfl ⟨Nat.le_of_ble_eq_true rfl, Nat.le_of_ble_eq_true rfl⟩ (Nat.le_of_ble_eq_true rfl) (kX3_isSheet hr)) (fun v1 _ => ?_)
  refine mg_if_eq (pc := 4) hC 26 dX3_scan_4 (by decide) (fun _ => ?_) (fun _ => ?_)
  · refine mg_iconst (pc := 26) hC (-1 : Int32) dX3_scan_26 (by decide) ?_
    exact mg_iret (pc := 27) hC rfl dX3_scan_27
  · refine mg_iload_n (pc := 7) hC 2 dX3_scan_7 rfl ?_
    refine mg_cRI (pc := 8) (fun r hr => mg_S (rest := []) hC wdX3_isLane mw_357 mw_356 dX3_scan_8 rfl rfl ⟨Nat.le_of_ble_eq_true rfl, Nat.le_of_ble_eq_true rfl⟩ (Nat.le_of_ble_eq_true rfl) (kX3_isLane hr)) (fun v2 _ => ?_)
    refine mg_if_eq (pc := 11) hC 26 dX3_scan_11 (by decide) (fun _ => ?_) (fun _ => ?_)
    · refine mg_iconst (pc := 26) hC (-1 : Int32) dX3_scan_26 (by decide) ?_
      exact mg_iret (pc := 27) hC rfl dX3_scan_27
    · refine mg_iload (pc := 14) hC 4 dX3_scan_14 rfl ?_
      refine mg_if_lt (pc := 16) hC 26 dX3_scan_16 (by decide) (fun _ => ?_) (fun _ => ?_)
      · refine mg_iconst (pc := 26) hC (-1 : Int32) dX3_scan_26 (by decide) ?_
        exact mg_iret (pc := 27) hC rfl dX3_scan_27
      · refine mg_iload (pc := 19) hC 4 dX3_scan_19 rfl ?_
        refine mg_bipush (pc := 21) hC (16 : Int32) dX3_scan_21 (by decide) ?_
        refine mg_icmp_le (pc := 23) hC 28 dX3_scan_23 (by decide) (fun _ => ?_) (fun _ => ?_)
        · refine mg_aload_n (pc := 28) hC 0 dX3_scan_28 rfl ?_
          refine mg_getNN (pc := 29) (ci := 3) (k := 1) hC mi_3 rfl (by decide) mw_20 dX3_scan_29 (fun v3 _ => ?_)
          refine mg_iload_n (pc := 32) hC 1 dX3_scan_32 rfl ?_
          refine mg_aald4 (pc := 33) hC dX3_scan_33 (fun v4 _ => ?_)
          refine mg_astoreQ (pc := 34) hC [(5, va_rf v4), (0, .ref x0), (1, .int x1), (2, .int x2), (3, .int x3), (4, .int x4)] dX3_scan_34 (by decide) rfl ?_
          refine mg_aloadQ (pc := 36) hC 0 dX3_scan_36 rfl ?_
          refine mg_ifnonnull (pc := 38) hC 44 dX3_scan_38 (by decide) (fun hq => ?_) (fun a5 hq => ?_)
          · subst hq
            refine mg_bipush (pc := 41) hC (-11 : Int32) dX3_scan_41 (by decide) ?_
            exact mg_iret (pc := 43) hC rfl dX3_scan_43
          · subst hq
            refine mg_aload (pc := 44) hC 0 dX3_scan_44 rfl ?_
            refine mg_getI (pc := 46) (ci := 1) (k := 0) hC mi_1 rfl (by decide) mw_366 dX3_scan_46 (fun v6 _ => ?_)
            refine mg_iload_n (pc := 49) hC 3 dX3_scan_49 rfl ?_
            refine mg_icmp_eq (pc := 50) hC 56 dX3_scan_50 (by decide) (fun _ => ?_) (fun _ => ?_)
            · refine mg_aload_n (pc := 56) hC 1 dX3_scan_56 rfl ?_
              refine mg_getI (pc := 57) (ci := 3) (k := 3) hC mi_3 rfl (by decide) mw_22 dX3_scan_57 (fun v7 _ => ?_)
              refine mg_istore (pc := 60) hC [(6, .int v7), (5, .ref a5), (0, .ref x0), (1, .int x1), (2, .int x2), (3, .int x3), (4, .int x4)] dX3_scan_60 (by decide) rfl ?_
              refine mg_iconst (pc := 62) hC (0 : Int32) dX3_scan_62 (by decide) ?_
              refine mg_istore (pc := 63) hC [(7, .int (0 : Int32)), (6, .int v7), (5, .ref a5), (0, .ref x0), (1, .int x1), (2, .int x2), (3, .int x3), (4, .int x4)] dX3_scan_63 (by decide) rfl ?_
              exact mg_sub (pc := 65) [3, 6, 7, 2, 1, 0] (L' := [(0, .ref x0), (3, .int x3), (4, .int x4), (5, .ref a5), (6, .int v7), (7, .int (0 : Int32))]) rfl (gX3_scan_b65 hC   _ _ _ _ _ _ _ _ _ _ _)
            · refine mg_bipush (pc := 53) hC (-13 : Int32) dX3_scan_53 (by decide) ?_
              exact mg_iret (pc := 55) hC rfl dX3_scan_55
        · refine mg_iconst (pc := 26) hC (-1 : Int32) dX3_scan_26 (by decide) ?_
          exact mg_iret (pc := 27) hC rfl dX3_scan_27
theorem wdX3_scan : mg_WdV 3 yX3_scan cX3_scan 9 (some .int) 4 := ⟨⟨mw_386, mw_1, by decide, by decide, by decide +kernel⟩, _, rfl, mw_384, mw_385⟩
def fX3_amountThatComesBack_b32 (w : mg_H) (r4 : Nat → Int32 → Int32 → Option (Int32)) (x0 : Nat) (x1 : Int32) (x2 : Int32) : Option (Int32) := r4 x0 x1 (x2 + (1 : Int32))
set_option maxHeartbeats 4000000 in
set_option maxRecDepth 100000 in
theorem gX3_amountThatComesBack_b32 (hC : mg_Cx E p s m args meth c cX3_amountThatComesBack 4 (some .int) RX3) (w : mg_H) (sz : Nat) (r4 : Nat → Int32 → Int32 → Option (Int32)) (hr4 : ∀ (z0 : Nat) (z1 : Int32) (z2 : Int32) (cells slots : Nat), mg_G E p l e ({ frames := 1, cells := C, slots := S, locals := 21 } : Room) s m args below meth c 4 (mg_oR mg_vI w) (r4 z0 z1 z2) w sz cells slots 4 [(0, .ref z0), (1, .int z1), (2, .int z2)] []) (x0 : Nat) (x1 : Int32) (x2 : Int32) (cells slots : Nat) : mg_G E p l e ({ frames := 1, cells := C, slots := S, locals := 21 } : Room) s m args below meth c 4 (mg_oR mg_vI w) (fX3_amountThatComesBack_b32 w r4 x0 x1 x2) w sz cells slots 32 [(0, .ref x0), (1, .int x1), (2, .int x2)] [] := by
  unfold fX3_amountThatComesBack_b32
  refine mg_iinc (pc := 32) hC 2 (x2 + (1 : Int32)) [(2, .int (x2 + (1 : Int32))), (0, .ref x0), (1, .int x1)] dX3_amountThatComesBack_32 rfl rfl (by decide) rfl ?_
  refine mg_goto (pc := 35) hC 4 dX3_amountThatComesBack_35 (by decide) ?_
  exact mg_sub (pc := 4) [1, 2, 0] (L' := [(0, .ref x0), (1, .int x1), (2, .int (x2 + (1 : Int32)))]) rfl (hr4 _ _ _ _ _)
def fX3_amountThatComesBack_b4 (w : mg_H) : Nat → Nat → Int32 → Int32 → Option (Int32)
  | 0, _, _, _ => none
  | n + 1, x0, x1, x2 => (mg_gI w 3 x0 3).bind fun v1 => if v1 ≤ x2 then (some x1) else (mg_rc w 3 x0 ((fX3_turnAt x0 x2 w).bind fun v2 => mg_if0 v2 (fX3_amountThatComesBack_b32 w (fX3_amountThatComesBack_b4 w n) x0 x1 x2) (fun a3 => mg_rc w 2 a3 ((fX2_comesBack a3 w).bind fun v4 => if v4 = 0 then (fX3_amountThatComesBack_b32 w (fX3_amountThatComesBack_b4 w n) x0 x1 x2) else (fX3_amountThatComesBack_b32 w (fX3_amountThatComesBack_b4 w n) x0 (x1 + (1 : Int32)) x2)))))
set_option maxHeartbeats 4000000 in
set_option maxRecDepth 100000 in
theorem gX3_amountThatComesBack_b4 (hC : mg_Cx E p s m args meth c cX3_amountThatComesBack 4 (some .int) RX3) (w : mg_H) (sz : Nat) : ∀ (n : Nat) (x0 : Nat) (x1 : Int32) (x2 : Int32) (cells slots : Nat), mg_G E p l e ({ frames := 1, cells := C, slots := S, locals := 21 } : Room) s m args below meth c 4 (mg_oR mg_vI w) (fX3_amountThatComesBack_b4 w n x0 x1 x2) w sz cells slots 4 [(0, .ref x0), (1, .int x1), (2, .int x2)] [] := by
  intro n
  induction n with
  | zero => intros; exact fun o hf => by rw [fX3_amountThatComesBack_b4] at hf; cases hf
  | succ n ih =>
    intro x0 x1 x2 cells slots
    rw [fX3_amountThatComesBack_b4]
    refine mg_iload_n (pc := 4) hC 2 dX3_amountThatComesBack_4 rfl ?_
    refine mg_aload_n (pc := 5) hC 0 dX3_amountThatComesBack_5 rfl ?_
    refine mg_getI (pc := 6) (ci := 3) (k := 3) hC mi_3 rfl (by decide) mw_22 dX3_amountThatComesBack_6 (fun v1 _ => ?_)
    refine mg_icmp_ge (pc := 9) hC 38 dX3_amountThatComesBack_9 (by decide) (fun _ => ?_) (fun _ => ?_)
    · refine mg_iload_n (pc := 38) hC 1 dX3_amountThatComesBack_38 rfl ?_
      exact mg_iret (pc := 39) hC rfl dX3_amountThatComesBack_39
    · refine mg_aload_n (pc := 12) hC 0 dX3_amountThatComesBack_12 rfl ?_
      refine mg_iload_n (pc := 13) hC 2 dX3_amountThatComesBack_13 rfl ?_
      refine mg_recv (ci := 3) (fun hb => ?_)
      refine mg_cRQ (pc := 14) (fun r hr => mg_VR (rest := []) (av := [.int x2]) (ci := 3) hC wdX3_turnAt mw_96 dX3_amountThatComesBack_14 rfl rfl ⟨Nat.le_of_ble_eq_true rfl, Nat.le_of_ble_eq_true rfl⟩ (Nat.le_of_ble_eq_true rfl) hb (kX3_turnAt hr)) (fun v2 _ => ?_)
      refine mg_astore_nQ (pc := 17) hC [(3, va_rf v2), (0, .ref x0), (1, .int x1), (2, .int x2)] dX3_amountThatComesBack_17 (by decide) rfl ?_
      refine mg_aload_nQ (pc := 18) hC 0 dX3_amountThatComesBack_18 rfl ?_
      refine mg_ifnull (pc := 19) hC 32 dX3_amountThatComesBack_19 (by decide) (fun hq => ?_) (fun a3 hq => ?_)
      · subst hq
        exact mg_sub (pc := 32) [1, 2, 3] (L' := [(0, .ref x0), (1, .int x1), (2, .int x2)]) rfl (gX3_amountThatComesBack_b32 hC _ _ _ ih _ _ _ _ _)
      · subst hq
        refine mg_aload_n (pc := 22) hC 0 dX3_amountThatComesBack_22 rfl ?_
        refine mg_recv (ci := 2) (fun hb => ?_)
        refine mg_cRI (pc := 23) (fun r hr => mg_VR (rest := []) (av := []) (ci := 2) hC wdX2_comesBack mw_143 dX3_amountThatComesBack_23 rfl rfl ⟨Nat.le_of_ble_eq_true rfl, Nat.le_of_ble_eq_true rfl⟩ (Nat.le_of_ble_eq_true rfl) hb (kX2_comesBack hr)) (fun v4 _ => ?_)
        refine mg_if_eq (pc := 26) hC 32 dX3_amountThatComesBack_26 (by decide) (fun _ => ?_) (fun _ => ?_)
        · exact mg_sub (pc := 32) [1, 2, 3] (L' := [(0, .ref x0), (1, .int x1), (2, .int x2)]) rfl (gX3_amountThatComesBack_b32 hC _ _ _ ih _ _ _ _ _)
        · refine mg_iinc (pc := 29) hC 2 (x1 + (1 : Int32)) [(1, .int (x1 + (1 : Int32))), (3, .ref a3), (0, .ref x0), (2, .int x2)] dX3_amountThatComesBack_29 rfl rfl (by decide) rfl ?_
          exact mg_sub (pc := 32) [2, 0, 3] (L' := [(0, .ref x0), (1, .int (x1 + (1 : Int32))), (2, .int x2)]) rfl (gX3_amountThatComesBack_b32 hC _ _ _ ih _ _ _ _ _)
def fX3_amountThatComesBack (x0 : Nat) (w : mg_H) : Option (Int32) := fX3_amountThatComesBack_b4 w mg_N x0 (0 : Int32) (0 : Int32)
set_option maxHeartbeats 4000000 in
set_option maxRecDepth 100000 in
theorem kX3_amountThatComesBack {E : mg_P} {l : Launch} {x0 : Nat} {w : mg_H} {sz : Nat} {o : Int32} (hf : fX3_amountThatComesBack x0 w = some o) : mg_C E l yX3_amountThatComesBack cX3_amountThatComesBack 4 (some .int) 1 21 [.ref x0] w sz ((mg_oR mg_vI w) o) := by
  refine mg_meth (out := (mg_oR mg_vI w)) (by decide) (Nat.le_of_ble_eq_true rfl) hf ?_
  intro p e C S s m below meth c hC hin
  have hC : mg_Cx E p s m _ meth c cX3_amountThatComesBack 4 (some .int) RX3 := hC
  unfold fX3_amountThatComesBack
  refine mg_sub (pc := 0) [0] (L' := [(0, .ref x0)]) rfl ?_
  refine mg_iconst (pc := 0) hC (0 : Int32) dX3_amountThatComesBack_0 (by decide) ?_
  refine mg_istore_n (pc := 1) hC [(1, .int (0 : Int32)), (0, .ref x0)] dX3_amountThatComesBack_1 (by decide) rfl ?_
  refine mg_iconst (pc := 2) hC (0 : Int32) dX3_amountThatComesBack_2 (by decide) ?_
  refine mg_istore_n (pc := 3) hC [(2, .int (0 : Int32)), (1, .int (0 : Int32)), (0, .ref x0)] dX3_amountThatComesBack_3 (by decide) rfl ?_
  exact mg_sub (pc := 4) [2, 1, 0] (L' := [(0, .ref x0), (1, .int (0 : Int32)), (2, .int (0 : Int32))]) rfl (gX3_amountThatComesBack_b4 hC _ _  _ _ _ _ _ _)
theorem wdX3_amountThatComesBack : mg_WdV 3 yX3_amountThatComesBack cX3_amountThatComesBack 4 (some .int) 0 := ⟨⟨mw_399, mw_1, by decide, by decide, by decide +kernel⟩, _, rfl, mw_398, mw_p15⟩
def fX3_cameEarlier_b40 (w : mg_H) (r8 : Nat → Int32 → (Option Nat) → Int32 → Option (Int32)) (x0 : Nat) (x1 : Int32) (x2 : Nat) (x3 : Int32) : Option (Int32) := r8 x0 x1 (some x2) (x3 + (1 : Int32))
set_option maxHeartbeats 4000000 in
set_option maxRecDepth 100000 in
theorem gX3_cameEarlier_b40 (hC : mg_Cx E p s m args meth c cX3_cameEarlier 5 (some .boolean) RX3) (w : mg_H) (sz : Nat) (r8 : Nat → Int32 → (Option Nat) → Int32 → Option (Int32)) (hr8 : ∀ (z0 : Nat) (z1 : Int32) (z2 : Option Nat) (z3 : Int32) (cells slots : Nat), mg_G E p l e ({ frames := 2, cells := C, slots := S, locals := 44 } : Room) s m args below meth c 5 (mg_oR mg_vI w) (r8 z0 z1 z2 z3) w sz cells slots 8 [(0, .ref z0), (1, .int z1), (2, va_rf z2), (3, .int z3)] []) (x0 : Nat) (x1 : Int32) (x2 : Nat) (x3 : Int32) (cells slots : Nat) : mg_G E p l e ({ frames := 2, cells := C, slots := S, locals := 44 } : Room) s m args below meth c 5 (mg_oR mg_vI w) (fX3_cameEarlier_b40 w r8 x0 x1 x2 x3) w sz cells slots 40 [(0, .ref x0), (1, .int x1), (2, .ref x2), (3, .int x3)] [] := by
  unfold fX3_cameEarlier_b40
  refine mg_iinc (pc := 40) hC 3 (x3 + (1 : Int32)) [(3, .int (x3 + (1 : Int32))), (0, .ref x0), (1, .int x1), (2, .ref x2)] dX3_cameEarlier_40 rfl rfl (by decide) rfl ?_
  refine mg_goto (pc := 43) hC 8 dX3_cameEarlier_43 (by decide) ?_
  exact mg_sub (pc := 8) [1, 2, 3, 0] (L' := [(0, .ref x0), (1, .int x1), (2, va_rf (some x2)), (3, .int (x3 + (1 : Int32)))]) rfl (hr8 _ _ _ _ _ _)
def fX3_cameEarlier_b8 (w : mg_H) : Nat → Nat → Int32 → (Option Nat) → Int32 → Option (Int32)
  | 0, _, _, _, _ => none
  | n + 1, x0, x1, x2, x3 => if x1 ≤ x3 then (some (0 : Int32)) else (mg_if0 x2 (some (0 : Int32)) (fun a1 => mg_rc w 3 x0 ((fX3_turnAt x0 x3 w).bind fun v2 => mg_if0 v2 (fX3_cameEarlier_b40 w (fX3_cameEarlier_b8 w n) x0 x1 a1 x3) (fun a3 => mg_rc w 2 a1 ((fX2_against a1 a3 w).bind fun v4 => if v4 = 0 then (some (1 : Int32)) else (fX3_cameEarlier_b40 w (fX3_cameEarlier_b8 w n) x0 x1 a1 x3))))))
set_option maxHeartbeats 4000000 in
set_option maxRecDepth 100000 in
theorem gX3_cameEarlier_b8 (hC : mg_Cx E p s m args meth c cX3_cameEarlier 5 (some .boolean) RX3) (w : mg_H) (sz : Nat) : ∀ (n : Nat) (x0 : Nat) (x1 : Int32) (x2 : Option Nat) (x3 : Int32) (cells slots : Nat), mg_G E p l e ({ frames := 2, cells := C, slots := S, locals := 44 } : Room) s m args below meth c 5 (mg_oR mg_vI w) (fX3_cameEarlier_b8 w n x0 x1 x2 x3) w sz cells slots 8 [(0, .ref x0), (1, .int x1), (2, va_rf x2), (3, .int x3)] [] := by
  intro n
  induction n with
  | zero => intros; exact fun o hf => by rw [fX3_cameEarlier_b8] at hf; cases hf
  | succ n ih =>
    intro x0 x1 x2 x3 cells slots
    rw [fX3_cameEarlier_b8]
    refine mg_iload_n (pc := 8) hC 3 dX3_cameEarlier_8 rfl ?_
    refine mg_iload_n (pc := 9) hC 1 dX3_cameEarlier_9 rfl ?_
    refine mg_icmp_ge (pc := 10) hC 46 dX3_cameEarlier_10 (by decide) (fun _ => ?_) (fun _ => ?_)
    · refine mg_iconst (pc := 46) hC (0 : Int32) dX3_cameEarlier_46 (by decide) ?_
      exact mg_zretC (pc := 47) hC (by decide) rfl dX3_cameEarlier_47
    · refine mg_aload_nQ (pc := 13) hC 2 dX3_cameEarlier_13 rfl ?_
      refine mg_ifnull (pc := 14) hC 46 dX3_cameEarlier_14 (by decide) (fun hq => ?_) (fun a1 hq => ?_)
      · subst hq
        refine mg_iconst (pc := 46) hC (0 : Int32) dX3_cameEarlier_46 (by decide) ?_
        exact mg_zretC (pc := 47) hC (by decide) rfl dX3_cameEarlier_47
      · subst hq
        refine mg_aload_n (pc := 17) hC 0 dX3_cameEarlier_17 rfl ?_
        refine mg_iload_n (pc := 18) hC 3 dX3_cameEarlier_18 rfl ?_
        refine mg_recv (ci := 3) (fun hb => ?_)
        refine mg_cRQ (pc := 19) (fun r hr => mg_VR (rest := []) (av := [.int x3]) (ci := 3) hC wdX3_turnAt mw_96 dX3_cameEarlier_19 rfl rfl ⟨Nat.le_of_ble_eq_true rfl, Nat.le_of_ble_eq_true rfl⟩ (Nat.le_of_ble_eq_true rfl) hb (kX3_turnAt hr)) (fun v2 _ => ?_)
        refine mg_astoreQ (pc := 22) hC [(4, va_rf v2), (0, .ref x0), (1, .int x1), (2, .ref a1), (3, .int x3)] dX3_cameEarlier_22 (by decide) rfl ?_
        refine mg_aloadQ (pc := 24) hC 0 dX3_cameEarlier_24 rfl ?_
        refine mg_ifnull (pc := 26) hC 40 dX3_cameEarlier_26 (by decide) (fun hq => ?_) (fun a3 hq => ?_)
        · subst hq
          exact mg_sub (pc := 40) [1, 2, 3, 4] (L' := [(0, .ref x0), (1, .int x1), (2, .ref a1), (3, .int x3)]) rfl (gX3_cameEarlier_b40 hC _ _ _ ih _ _ _ _ _ _)
        · subst hq
          refine mg_aload_n (pc := 29) hC 3 dX3_cameEarlier_29 rfl ?_
          refine mg_aload (pc := 30) hC 0 dX3_cameEarlier_30 rfl ?_
          refine mg_recv (ci := 2) (fun hb => ?_)
          refine mg_cRI (pc := 32) (fun r hr => mg_VR (rest := []) (av := [.ref a3]) (ci := 2) hC wdX2_against mw_160 dX3_cameEarlier_32 rfl rfl ⟨Nat.le_of_ble_eq_true rfl, Nat.le_of_ble_eq_true rfl⟩ (Nat.le_of_ble_eq_true rfl) hb (kX2_against hr)) (fun v4 _ => ?_)
          refine mg_if_ne (pc := 35) hC 40 dX3_cameEarlier_35 (by decide) (fun _ => ?_) (fun _ => ?_)
          · refine mg_iconst (pc := 38) hC (1 : Int32) dX3_cameEarlier_38 (by decide) ?_
            exact mg_zretC (pc := 39) hC (by decide) rfl dX3_cameEarlier_39
          · exact mg_sub (pc := 40) [1, 2, 3, 4] (L' := [(0, .ref x0), (1, .int x1), (2, .ref a1), (3, .int x3)]) rfl (gX3_cameEarlier_b40 hC _ _ _ ih _ _ _ _ _ _)
def fX3_cameEarlier (x0 : Nat) (x1 : Int32) (w : mg_H) : Option (Int32) := mg_rc w 3 x0 ((fX3_turnAt x0 x1 w).bind fun v1 => fX3_cameEarlier_b8 w mg_N x0 x1 v1 (0 : Int32))
set_option maxHeartbeats 4000000 in
set_option maxRecDepth 100000 in
theorem kX3_cameEarlier {E : mg_P} {l : Launch} {x0 : Nat} {x1 : Int32} {w : mg_H} {sz : Nat} {o : Int32} (hf : fX3_cameEarlier x0 x1 w = some o) : mg_C E l yX3_cameEarlier cX3_cameEarlier 5 (some .boolean) 2 44 [.ref x0, .int x1] w sz ((mg_oR mg_vI w) o) := by
  refine mg_meth (out := (mg_oR mg_vI w)) (by decide) (Nat.le_of_ble_eq_true rfl) hf ?_
  intro p e C S s m below meth c hC hin
  have hC : mg_Cx E p s m _ meth c cX3_cameEarlier 5 (some .boolean) RX3 := hC
  unfold fX3_cameEarlier
  refine mg_sub (pc := 0) [0, 1] (L' := [(0, .ref x0), (1, .int x1)]) rfl ?_
  refine mg_aload_n (pc := 0) hC 0 dX3_cameEarlier_0 rfl ?_
  refine mg_iload_n (pc := 1) hC 1 dX3_cameEarlier_1 rfl ?_
  refine mg_recv (ci := 3) (fun hb => ?_)
  refine mg_cRQ (pc := 2) (fun r hr => mg_VR (rest := []) (av := [.int x1]) (ci := 3) hC wdX3_turnAt mw_96 dX3_cameEarlier_2 rfl rfl ⟨Nat.le_of_ble_eq_true rfl, Nat.le_of_ble_eq_true rfl⟩ (Nat.le_of_ble_eq_true rfl) hb (kX3_turnAt hr)) (fun v1 _ => ?_)
  refine mg_astore_nQ (pc := 5) hC [(2, va_rf v1), (0, .ref x0), (1, .int x1)] dX3_cameEarlier_5 (by decide) rfl ?_
  refine mg_iconst (pc := 6) hC (0 : Int32) dX3_cameEarlier_6 (by decide) ?_
  refine mg_istore_n (pc := 7) hC [(3, .int (0 : Int32)), (2, va_rf v1), (0, .ref x0), (1, .int x1)] dX3_cameEarlier_7 (by decide) (by cases v1 <;> rfl) ?_
  exact mg_sub (pc := 8) [2, 3, 1, 0] (L' := [(0, .ref x0), (1, .int x1), (2, va_rf v1), (3, .int (0 : Int32))]) rfl (gX3_cameEarlier_b8 hC _ _  _ _ _ _ _ _ _)
theorem wdX3_cameEarlier : mg_WdV 3 yX3_cameEarlier cX3_cameEarlier 5 (some .boolean) 1 := ⟨⟨mw_407, mw_1, by decide, by decide, by decide +kernel⟩, _, rfl, mw_406, mw_p17⟩
def fX3_amountOfUnlike_b23 (w : mg_H) (r4 : Nat → Int32 → Int32 → Option (Int32)) (x0 : Nat) (x1 : Int32) (x2 : Int32) : Option (Int32) := r4 x0 x1 (x2 + (1 : Int32))
set_option maxHeartbeats 4000000 in
set_option maxRecDepth 100000 in
theorem gX3_amountOfUnlike_b23 (hC : mg_Cx E p s m args meth c cX3_amountOfUnlike 3 (some .int) RX3) (w : mg_H) (sz : Nat) (r4 : Nat → Int32 → Int32 → Option (Int32)) (hr4 : ∀ (z0 : Nat) (z1 : Int32) (z2 : Int32) (cells slots : Nat), mg_G E p l e ({ frames := 3, cells := C, slots := S, locals := 68 } : Room) s m args below meth c 3 (mg_oR mg_vI w) (r4 z0 z1 z2) w sz cells slots 4 [(0, .ref z0), (1, .int z1), (2, .int z2)] []) (x0 : Nat) (x1 : Int32) (x2 : Int32) (cells slots : Nat) : mg_G E p l e ({ frames := 3, cells := C, slots := S, locals := 68 } : Room) s m args below meth c 3 (mg_oR mg_vI w) (fX3_amountOfUnlike_b23 w r4 x0 x1 x2) w sz cells slots 23 [(0, .ref x0), (1, .int x1), (2, .int x2)] [] := by
  unfold fX3_amountOfUnlike_b23
  refine mg_iinc (pc := 23) hC 2 (x2 + (1 : Int32)) [(2, .int (x2 + (1 : Int32))), (0, .ref x0), (1, .int x1)] dX3_amountOfUnlike_23 rfl rfl (by decide) rfl ?_
  refine mg_goto (pc := 26) hC 4 dX3_amountOfUnlike_26 (by decide) ?_
  exact mg_sub (pc := 4) [1, 2, 0] (L' := [(0, .ref x0), (1, .int x1), (2, .int (x2 + (1 : Int32)))]) rfl (hr4 _ _ _ _ _)
def fX3_amountOfUnlike_b4 (w : mg_H) : Nat → Nat → Int32 → Int32 → Option (Int32)
  | 0, _, _, _ => none
  | n + 1, x0, x1, x2 => (mg_gI w 3 x0 3).bind fun v1 => if v1 ≤ x2 then (some x1) else (mg_rc w 3 x0 ((fX3_cameEarlier x0 x2 w).bind fun v2 => if v2 = 0 then (fX3_amountOfUnlike_b23 w (fX3_amountOfUnlike_b4 w n) x0 (x1 + (1 : Int32)) x2) else (fX3_amountOfUnlike_b23 w (fX3_amountOfUnlike_b4 w n) x0 x1 x2)))
set_option maxHeartbeats 4000000 in
set_option maxRecDepth 100000 in
theorem gX3_amountOfUnlike_b4 (hC : mg_Cx E p s m args meth c cX3_amountOfUnlike 3 (some .int) RX3) (w : mg_H) (sz : Nat) : ∀ (n : Nat) (x0 : Nat) (x1 : Int32) (x2 : Int32) (cells slots : Nat), mg_G E p l e ({ frames := 3, cells := C, slots := S, locals := 68 } : Room) s m args below meth c 3 (mg_oR mg_vI w) (fX3_amountOfUnlike_b4 w n x0 x1 x2) w sz cells slots 4 [(0, .ref x0), (1, .int x1), (2, .int x2)] [] := by
  intro n
  induction n with
  | zero => intros; exact fun o hf => by rw [fX3_amountOfUnlike_b4] at hf; cases hf
  | succ n ih =>
    intro x0 x1 x2 cells slots
    rw [fX3_amountOfUnlike_b4]
    refine mg_iload_n (pc := 4) hC 2 dX3_amountOfUnlike_4 rfl ?_
    refine mg_aload_n (pc := 5) hC 0 dX3_amountOfUnlike_5 rfl ?_
    refine mg_getI (pc := 6) (ci := 3) (k := 3) hC mi_3 rfl (by decide) mw_22 dX3_amountOfUnlike_6 (fun v1 _ => ?_)
    refine mg_icmp_ge (pc := 9) hC 29 dX3_amountOfUnlike_9 (by decide) (fun _ => ?_) (fun _ => ?_)
    · refine mg_iload_n (pc := 29) hC 1 dX3_amountOfUnlike_29 rfl ?_
      exact mg_iret (pc := 30) hC rfl dX3_amountOfUnlike_30
    · refine mg_aload_n (pc := 12) hC 0 dX3_amountOfUnlike_12 rfl ?_
      refine mg_iload_n (pc := 13) hC 2 dX3_amountOfUnlike_13 rfl ?_
      refine mg_recv (ci := 3) (fun hb => ?_)
      refine mg_cRI (pc := 14) (fun r hr => mg_VR (rest := []) (av := [.int x2]) (ci := 3) hC wdX3_cameEarlier mw_404 dX3_amountOfUnlike_14 rfl rfl ⟨Nat.le_of_ble_eq_true rfl, Nat.le_of_ble_eq_true rfl⟩ (Nat.le_of_ble_eq_true rfl) hb (kX3_cameEarlier hr)) (fun v2 _ => ?_)
      refine mg_if_ne (pc := 17) hC 23 dX3_amountOfUnlike_17 (by decide) (fun _ => ?_) (fun _ => ?_)
      · refine mg_iinc (pc := 20) hC 1 (x1 + (1 : Int32)) [(1, .int (x1 + (1 : Int32))), (0, .ref x0), (2, .int x2)] dX3_amountOfUnlike_20 rfl rfl (by decide) rfl ?_
        exact mg_sub (pc := 23) [1, 0, 2] (L' := [(0, .ref x0), (1, .int (x1 + (1 : Int32))), (2, .int x2)]) rfl (gX3_amountOfUnlike_b23 hC _ _ _ ih _ _ _ _ _)
      · exact mg_sub (pc := 23) [0, 1, 2] (L' := [(0, .ref x0), (1, .int x1), (2, .int x2)]) rfl (gX3_amountOfUnlike_b23 hC _ _ _ ih _ _ _ _ _)
def fX3_amountOfUnlike (x0 : Nat) (w : mg_H) : Option (Int32) := fX3_amountOfUnlike_b4 w mg_N x0 (0 : Int32) (0 : Int32)
set_option maxHeartbeats 4000000 in
set_option maxRecDepth 100000 in
theorem kX3_amountOfUnlike {E : mg_P} {l : Launch} {x0 : Nat} {w : mg_H} {sz : Nat} {o : Int32} (hf : fX3_amountOfUnlike x0 w = some o) : mg_C E l yX3_amountOfUnlike cX3_amountOfUnlike 3 (some .int) 3 68 [.ref x0] w sz ((mg_oR mg_vI w) o) := by
  refine mg_meth (out := (mg_oR mg_vI w)) (by decide) (Nat.le_of_ble_eq_true rfl) hf ?_
  intro p e C S s m below meth c hC hin
  have hC : mg_Cx E p s m _ meth c cX3_amountOfUnlike 3 (some .int) RX3 := hC
  unfold fX3_amountOfUnlike
  refine mg_sub (pc := 0) [0] (L' := [(0, .ref x0)]) rfl ?_
  refine mg_iconst (pc := 0) hC (0 : Int32) dX3_amountOfUnlike_0 (by decide) ?_
  refine mg_istore_n (pc := 1) hC [(1, .int (0 : Int32)), (0, .ref x0)] dX3_amountOfUnlike_1 (by decide) rfl ?_
  refine mg_iconst (pc := 2) hC (0 : Int32) dX3_amountOfUnlike_2 (by decide) ?_
  refine mg_istore_n (pc := 3) hC [(2, .int (0 : Int32)), (1, .int (0 : Int32)), (0, .ref x0)] dX3_amountOfUnlike_3 (by decide) rfl ?_
  exact mg_sub (pc := 4) [2, 1, 0] (L' := [(0, .ref x0), (1, .int (0 : Int32)), (2, .int (0 : Int32))]) rfl (gX3_amountOfUnlike_b4 hC _ _  _ _ _ _ _ _)
theorem wdX3_amountOfUnlike : mg_WdV 3 yX3_amountOfUnlike cX3_amountOfUnlike 3 (some .int) 0 := ⟨⟨mw_403, mw_1, by decide, by decide, by decide +kernel⟩, _, rfl, mw_402, mw_p16⟩
def fX3_count (x0 : Nat) (x1 : Int32) (w : mg_H) : Option (Int32) := if x1 = (0 : Int32) then ((mg_gI w 3 x0 3).bind fun v1 => some v1) else (if x1 = (1 : Int32) then (mg_rc w 3 x0 ((fX3_amountThatComesBack x0 w).bind fun v2 => some v2)) else (if x1 = (2 : Int32) then (mg_rc w 3 x0 ((fX3_amountOfUnlike x0 w).bind fun v3 => some v3)) else (some (-1 : Int32))))
set_option maxHeartbeats 4000000 in
set_option maxRecDepth 100000 in
theorem kX3_count {E : mg_P} {l : Launch} {x0 : Nat} {x1 : Int32} {w : mg_H} {sz : Nat} {o : Int32} (hf : fX3_count x0 x1 w = some o) : mg_C E l yX3_count cX3_count 2 (some .int) 4 90 [.ref x0, .int x1] w sz ((mg_oR mg_vI w) o) := by
  refine mg_meth (out := (mg_oR mg_vI w)) (by decide) (Nat.le_of_ble_eq_true rfl) hf ?_
  intro p e C S s m below meth c hC hin
  have hC : mg_Cx E p s m _ meth c cX3_count 2 (some .int) RX3 := hC
  unfold fX3_count
  refine mg_sub (pc := 0) [0, 1] (L' := [(0, .ref x0), (1, .int x1)]) rfl ?_
  refine mg_iload_n (pc := 0) hC 1 dX3_count_0 rfl ?_
  refine mg_ite (cd := x1 = (0 : Int32)) (fun hq => ?_) (fun h0 => ?_)
  · subst hq
    refine mg_tswC (pc := 1) hC 28 dX3_count_1 (by decide) (by decide) rfl (by decide) ?_
    refine mg_aload_n (pc := 28) hC 0 dX3_count_28 rfl ?_
    refine mg_getI (pc := 29) (ci := 3) (k := 3) hC mi_3 rfl (by decide) mw_22 dX3_count_29 (fun v1 _ => ?_)
    exact mg_iret (pc := 32) hC rfl dX3_count_32
  · skip
    refine mg_ite (cd := x1 = (1 : Int32)) (fun hq => ?_) (fun h1 => ?_)
    · subst hq
      refine mg_tswC (pc := 1) hC 33 dX3_count_1 (by decide) (by decide) rfl (by decide) ?_
      refine mg_aload_n (pc := 33) hC 0 dX3_count_33 rfl ?_
      refine mg_recv (ci := 3) (fun hb => ?_)
      refine mg_cRI (pc := 34) (fun r hr => mg_VR (rest := []) (av := []) (ci := 3) hC wdX3_amountThatComesBack mw_396 dX3_count_34 rfl rfl ⟨Nat.le_of_ble_eq_true rfl, Nat.le_of_ble_eq_true rfl⟩ (Nat.le_of_ble_eq_true rfl) hb (kX3_amountThatComesBack hr)) (fun v2 _ => ?_)
      exact mg_iret (pc := 37) hC rfl dX3_count_37
    · skip
      refine mg_ite (cd := x1 = (2 : Int32)) (fun hq => ?_) (fun h2 => ?_)
      · subst hq
        refine mg_tswC (pc := 1) hC 38 dX3_count_1 (by decide) (by decide) rfl (by decide) ?_
        refine mg_aload_n (pc := 38) hC 0 dX3_count_38 rfl ?_
        refine mg_recv (ci := 3) (fun hb => ?_)
        refine mg_cRI (pc := 39) (fun r hr => mg_VR (rest := []) (av := []) (ci := 3) hC wdX3_amountOfUnlike mw_400 dX3_count_39 rfl rfl ⟨Nat.le_of_ble_eq_true rfl, Nat.le_of_ble_eq_true rfl⟩ (Nat.le_of_ble_eq_true rfl) hb (kX3_amountOfUnlike hr)) (fun v3 _ => ?_)
        exact mg_iret (pc := 42) hC rfl dX3_count_42
      · skip
        refine mg_tswD (pc := 1) hC 43 dX3_count_1 (mg_sw2 h0 h1 h2) (by decide) ?_
        refine mg_iconst (pc := 43) hC (-1 : Int32) dX3_count_43 (by decide) ?_
        exact mg_iret (pc := 44) hC rfl dX3_count_44
theorem wdX3_count : mg_WdV 3 yX3_count cX3_count 2 (some .int) 1 := ⟨⟨mw_395, mw_1, by decide, by decide, by decide +kernel⟩, _, rfl, mw_393, mw_394⟩
def fX4_pairs0 (x0 : Nat) (x1 : Int32) (x2 : Int64) (x4 : Int64) (w : mg_H) : Option (Unit × mg_H) := mg_gN w 4 x0 4 fun v1 => (mg_gI w 4 x0 3).bind fun v2 => (mg_stI w v1 v2 x1).bind fun w3 => mg_gN w3 4 x0 5 fun v4 => (mg_gI w3 4 x0 3).bind fun v5 => (mg_stL w3 v4 v5 x2).bind fun w6 => mg_gN w6 4 x0 6 fun v7 => (mg_gI w6 4 x0 3).bind fun v8 => (mg_stL w6 v7 v8 x4).bind fun w9 => (mg_gI w9 4 x0 3).bind fun v10 => (mg_pI w9 4 x0 3 (v10 + (1 : Int32))).bind fun w11 => some ((), w11)
set_option maxHeartbeats 4000000 in
set_option maxRecDepth 100000 in
theorem kX4_pairs0 {E : mg_P} {l : Launch} {x0 : Nat} {x1 : Int32} {x2 : Int64} {x4 : Int64} {w : mg_H} {sz : Nat} {o : Unit × mg_H} (hf : fX4_pairs0 x0 x1 x2 x4 w = some o) : mg_C E l yX4_pairs0 cX4_pairs0 6 none 0 0 [.ref x0, .int x1, .long x2, .long x4] w sz ((mg_oS mg_vV) o) := by
  refine mg_meth (out := (mg_oS mg_vV)) (by decide) (Nat.le_of_ble_eq_true rfl) hf ?_
  intro p e C S s m below meth c hC hin
  have hC : mg_Cx E p s m _ meth c cX4_pairs0 6 none RX4 := hC
  unfold fX4_pairs0
  refine mg_sub (pc := 0) [0, 1, 2, 3] (L' := [(0, .ref x0), (1, .int x1), (2, .long x2), (4, .long x4)]) rfl ?_
  refine mg_aload_n (pc := 0) hC 0 dX4_pairs0_0 rfl ?_
  refine mg_getNN (pc := 1) (ci := 4) (k := 4) hC mi_4 rfl (by decide) mw_449 dX4_pairs0_1 (fun v1 _ => ?_)
  refine mg_aload_n (pc := 4) hC 0 dX4_pairs0_4 rfl ?_
  refine mg_getI (pc := 5) (ci := 4) (k := 3) hC mi_4 rfl (by decide) mw_448 dX4_pairs0_5 (fun v2 _ => ?_)
  refine mg_iload_n (pc := 8) hC 1 dX4_pairs0_8 rfl ?_
  refine mg_iast (pc := 9) hC dX4_pairs0_9 (fun w3 _ => ?_)
  refine mg_aload_n (pc := 10) hC 0 dX4_pairs0_10 rfl ?_
  refine mg_getNN (pc := 11) (ci := 4) (k := 5) hC mi_4 rfl (by decide) mw_450 dX4_pairs0_11 (fun v4 _ => ?_)
  refine mg_aload_n (pc := 14) hC 0 dX4_pairs0_14 rfl ?_
  refine mg_getI (pc := 15) (ci := 4) (k := 3) hC mi_4 rfl (by decide) mw_448 dX4_pairs0_15 (fun v5 _ => ?_)
  refine mg_lload_n (pc := 18) hC 2 dX4_pairs0_18 rfl ?_
  refine mg_last (pc := 19) hC dX4_pairs0_19 (fun w6 _ => ?_)
  refine mg_aload_n (pc := 20) hC 0 dX4_pairs0_20 rfl ?_
  refine mg_getNN (pc := 21) (ci := 4) (k := 6) hC mi_4 rfl (by decide) mw_451 dX4_pairs0_21 (fun v7 _ => ?_)
  refine mg_aload_n (pc := 24) hC 0 dX4_pairs0_24 rfl ?_
  refine mg_getI (pc := 25) (ci := 4) (k := 3) hC mi_4 rfl (by decide) mw_448 dX4_pairs0_25 (fun v8 _ => ?_)
  refine mg_lload (pc := 28) hC 3 dX4_pairs0_28 rfl ?_
  refine mg_last (pc := 30) hC dX4_pairs0_30 (fun w9 _ => ?_)
  refine mg_aload_n (pc := 31) hC 0 dX4_pairs0_31 rfl ?_
  refine mg_dup (pc := 32) hC dX4_pairs0_32 rfl ?_
  refine mg_getI (pc := 33) (ci := 4) (k := 3) hC mi_4 rfl (by decide) mw_448 dX4_pairs0_33 (fun v10 _ => ?_)
  refine mg_iconst (pc := 36) hC (1 : Int32) dX4_pairs0_36 (by decide) ?_
  refine mg_iadd (pc := 37) hC dX4_pairs0_37 ?_
  refine mg_putI (pc := 38) (ci := 4) (k := 3) hC mi_4 rfl (by decide) tyX4 tyX4_ok nmX4 mw_448 dX4_pairs0_38 (Or.inl rfl) rfl (fun w11 _ => ?_)
  exact mg_vret (pc := 41) hC rfl dX4_pairs0_41
theorem wdX4_pairs0 : mg_WdV 4 yX4_pairs0 cX4_pairs0 6 none 3 := ⟨⟨mw_421, mw_2, by decide, by decide, by decide +kernel⟩, _, rfl, mw_420, mw_p19⟩
def fX4_whole (x0 : Int32) : Option (Int64) := some (((1 : Int64) <<< (x0.toInt64 &&& 63)) - (1 : Int64))
set_option maxHeartbeats 4000000 in
set_option maxRecDepth 100000 in
theorem kX4_whole {E : mg_P} {l : Launch} {x0 : Int32} {w : mg_H} {sz : Nat} {o : Int64} (hf : fX4_whole x0 = some o) : mg_C E l yX4_whole cX4_whole 1 (some .long) 0 0 [.int x0] w sz ((mg_oR mg_vL w) o) := by
  refine mg_meth (out := (mg_oR mg_vL w)) (by decide) (Nat.le_of_ble_eq_true rfl) hf ?_
  intro p e C S s m below meth c hC hin
  have hC : mg_Cx E p s m _ meth c cX4_whole 1 (some .long) RX4 := hC
  unfold fX4_whole
  refine mg_sub (pc := 0) [0] (L' := [(0, .int x0)]) rfl ?_
  refine mg_lconst (pc := 0) hC (1 : Int64) dX4_whole_0 (by decide) ?_
  refine mg_iload_n (pc := 1) hC 0 dX4_whole_1 rfl ?_
  refine mg_lshl (pc := 2) hC dX4_whole_2 ?_
  refine mg_lconst (pc := 3) hC (1 : Int64) dX4_whole_3 (by decide) ?_
  refine mg_lsub (pc := 4) hC dX4_whole_4 ?_
  exact mg_lret (pc := 5) hC rfl dX4_whole_5
theorem wdX4_whole : mg_Wd yX4_whole cX4_whole 1 (some .long) 1 := ⟨mw_424, mw_2, by decide, by decide, by decide +kernel⟩
def fX4_in (x0 : Int64) (x2 : Int64) (x4 : Int64) : Option (Int32) := if (lg_cmp x0 x2) < 0 then (some (0 : Int32)) else (if 0 < (lg_cmp x0 x4) then (some (0 : Int32)) else (some (1 : Int32)))
set_option maxHeartbeats 4000000 in
set_option maxRecDepth 100000 in
theorem kX4_in {E : mg_P} {l : Launch} {x0 : Int64} {x2 : Int64} {x4 : Int64} {w : mg_H} {sz : Nat} {o : Int32} (hf : fX4_in x0 x2 x4 = some o) : mg_C E l yX4_in cX4_in 6 (some .boolean) 0 0 [.long x0, .long x2, .long x4] w sz ((mg_oR mg_vI w) o) := by
  refine mg_meth (out := (mg_oR mg_vI w)) (by decide) (Nat.le_of_ble_eq_true rfl) hf ?_
  intro p e C S s m below meth c hC hin
  have hC : mg_Cx E p s m _ meth c cX4_in 6 (some .boolean) RX4 := hC
  unfold fX4_in
  refine mg_sub (pc := 0) [0, 1, 2] (L' := [(0, .long x0), (2, .long x2), (4, .long x4)]) rfl ?_
  refine mg_lload_n (pc := 0) hC 0 dX4_in_0 rfl ?_
  refine mg_lload_n (pc := 1) hC 1 dX4_in_1 rfl ?_
  refine mg_lcmp (pc := 2) hC dX4_in_2 ?_
  refine mg_if_lt (pc := 3) hC 17 dX4_in_3 (by decide) (fun _ => ?_) (fun _ => ?_)
  · refine mg_iconst (pc := 17) hC (0 : Int32) dX4_in_17 (by decide) ?_
    exact mg_zretC (pc := 18) hC (by decide) rfl dX4_in_18
  · refine mg_lload_n (pc := 6) hC 0 dX4_in_6 rfl ?_
    refine mg_lload (pc := 7) hC 2 dX4_in_7 rfl ?_
    refine mg_lcmp (pc := 9) hC dX4_in_9 ?_
    refine mg_if_gt (pc := 10) hC 17 dX4_in_10 (by decide) (fun _ => ?_) (fun _ => ?_)
    · refine mg_iconst (pc := 17) hC (0 : Int32) dX4_in_17 (by decide) ?_
      exact mg_zretC (pc := 18) hC (by decide) rfl dX4_in_18
    · refine mg_iconst (pc := 13) hC (1 : Int32) dX4_in_13 (by decide) ?_
      refine mg_goto (pc := 14) hC 18 dX4_in_14 (by decide) ?_
      exact mg_zretC (pc := 18) hC (by decide) rfl dX4_in_18
theorem wdX4_in : mg_Wd yX4_in cX4_in 6 (some .boolean) 3 := ⟨mw_427, mw_2, by decide, by decide, by decide +kernel⟩
def fX4_divisor_b6 : Nat → Int64 → Int64 → Option (Int64)
  | 0, _, _ => none
  | n + 1, x4, x6 => if (lg_cmp x6 (0 : Int64)) = 0 then (some x4) else (if x6 = 0 then none else (fX4_divisor_b6 n x6 (x4 - x4 / x6 * x6)))
set_option maxHeartbeats 4000000 in
set_option maxRecDepth 100000 in
theorem gX4_divisor_b6 (hC : mg_Cx E p s m args meth c cX4_divisor 10 (some .long) RX4) (w : mg_H) (sz : Nat) : ∀ (n : Nat) (x4 : Int64) (x6 : Int64) (cells slots : Nat), mg_G E p l e ({ frames := 0, cells := C, slots := S, locals := 0 } : Room) s m args below meth c 10 (mg_oR mg_vL w) (fX4_divisor_b6 n x4 x6) w sz cells slots 6 [(4, .long x4), (6, .long x6)] [] := by
  intro n
  induction n with
  | zero => intros; exact fun o hf => by rw [fX4_divisor_b6] at hf; cases hf
  | succ n ih =>
    intro x4 x6 cells slots
    rw [fX4_divisor_b6]
    refine mg_lload (pc := 6) hC 1 dX4_divisor_6 rfl ?_
    refine mg_lconst (pc := 8) hC (0 : Int64) dX4_divisor_8 (by decide) ?_
    refine mg_lcmp (pc := 9) hC dX4_divisor_9 ?_
    refine mg_if_eq (pc := 10) hC 31 dX4_divisor_10 (by decide) (fun _ => ?_) (fun _ => ?_)
    · refine mg_lload (pc := 31) hC 0 dX4_divisor_31 rfl ?_
      exact mg_lret (pc := 33) hC rfl dX4_divisor_33
    · refine mg_lload (pc := 13) hC 0 dX4_divisor_13 rfl ?_
      refine mg_lload (pc := 15) hC 1 dX4_divisor_15 rfl ?_
      refine mg_lrem (pc := 17) hC dX4_divisor_17 ?_
      refine mg_lstore (pc := 18) hC [(8, .long (x4 - x4 / x6 * x6)), (4, .long x4), (6, .long x6)] dX4_divisor_18 (by decide) rfl ?_
      refine mg_lload (pc := 20) hC 2 dX4_divisor_20 rfl ?_
      refine mg_lstore (pc := 22) hC [(4, .long x6), (8, .long (x4 - x4 / x6 * x6)), (6, .long x6)] dX4_divisor_22 (by decide) rfl ?_
      refine mg_lload (pc := 24) hC 1 dX4_divisor_24 rfl ?_
      refine mg_lstore (pc := 26) hC [(6, .long (x4 - x4 / x6 * x6)), (4, .long x6), (8, .long (x4 - x4 / x6 * x6))] dX4_divisor_26 (by decide) rfl ?_
      refine mg_goto (pc := 28) hC 6 dX4_divisor_28 (by decide) ?_
      exact mg_sub (pc := 6) [1, 0] (L' := [(4, .long x6), (6, .long (x4 - x4 / x6 * x6))]) rfl (ih _ _ _ _)
def fX4_divisor (x0 : Int64) (x2 : Int64) : Option (Int64) := fX4_divisor_b6 mg_N x0 x2
set_option maxHeartbeats 4000000 in
set_option maxRecDepth 100000 in
theorem kX4_divisor {E : mg_P} {l : Launch} {x0 : Int64} {x2 : Int64} {w : mg_H} {sz : Nat} {o : Int64} (hf : fX4_divisor x0 x2 = some o) : mg_C E l yX4_divisor cX4_divisor 10 (some .long) 0 0 [.long x0, .long x2] w sz ((mg_oR mg_vL w) o) := by
  refine mg_meth (out := (mg_oR mg_vL w)) (by decide) (Nat.le_of_ble_eq_true rfl) hf ?_
  intro p e C S s m below meth c hC hin
  have hC : mg_Cx E p s m _ meth c cX4_divisor 10 (some .long) RX4 := hC
  unfold fX4_divisor
  refine mg_sub (pc := 0) [0, 1] (L' := [(0, .long x0), (2, .long x2)]) rfl ?_
  refine mg_lload_n (pc := 0) hC 0 dX4_divisor_0 rfl ?_
  refine mg_lstore (pc := 1) hC [(4, .long x0), (0, .long x0), (2, .long x2)] dX4_divisor_1 (by decide) rfl ?_
  refine mg_lload_n (pc := 3) hC 2 dX4_divisor_3 rfl ?_
  refine mg_lstore (pc := 4) hC [(6, .long x2), (4, .long x0), (0, .long x0), (2, .long x2)] dX4_divisor_4 (by decide) rfl ?_
  exact mg_sub (pc := 6) [1, 0] (L' := [(4, .long x0), (6, .long x2)]) rfl (gX4_divisor_b6 hC _ _  _ _ _ _ _)
theorem wdX4_divisor : mg_Wd yX4_divisor cX4_divisor 10 (some .long) 2 := ⟨mw_433, mw_2, by decide, by decide, by decide +kernel⟩
def fX4_lengthOf_b31 : Nat → Int64 → Int32 → Int64 → Option (Int32)
  | 0, _, _, _ => none
  | n + 1, x2, x4, x5 => if x2 = 0 then none else (if (lg_cmp x5 ((1 : Int64) - (1 : Int64) / x2 * x2)) = 0 then (some x4) else (if x2 = 0 then none else (fX4_lengthOf_b31 n x2 (x4 + (1 : Int32)) (((2 : Int64) * x5) - ((2 : Int64) * x5) / x2 * x2))))
set_option maxHeartbeats 4000000 in
set_option maxRecDepth 100000 in
theorem gX4_lengthOf_b31 (hC : mg_Cx E p s m args meth c cX4_lengthOf 7 (some .int) RX4) (w : mg_H) (sz : Nat) : ∀ (n : Nat) (x2 : Int64) (x4 : Int32) (x5 : Int64) (cells slots : Nat), mg_G E p l e ({ frames := 0, cells := C, slots := S, locals := 0 } : Room) s m args below meth c 7 (mg_oR mg_vI w) (fX4_lengthOf_b31 n x2 x4 x5) w sz cells slots 31 [(2, .long x2), (4, .int x4), (5, .long x5)] [] := by
  intro n
  induction n with
  | zero => intros; exact fun o hf => by rw [fX4_lengthOf_b31] at hf; cases hf
  | succ n ih =>
    intro x2 x4 x5 cells slots
    rw [fX4_lengthOf_b31]
    refine mg_lload (pc := 31) hC 2 dX4_lengthOf_31 rfl ?_
    refine mg_lconst (pc := 33) hC (1 : Int64) dX4_lengthOf_33 (by decide) ?_
    refine mg_lload_n (pc := 34) hC 0 dX4_lengthOf_34 rfl ?_
    refine mg_lrem (pc := 35) hC dX4_lengthOf_35 ?_
    refine mg_lcmp (pc := 36) hC dX4_lengthOf_36 ?_
    refine mg_if_eq (pc := 37) hC 56 dX4_lengthOf_37 (by decide) (fun _ => ?_) (fun _ => ?_)
    · refine mg_iload (pc := 56) hC 1 dX4_lengthOf_56 rfl ?_
      exact mg_iret (pc := 58) hC rfl dX4_lengthOf_58
    · refine mg_ldc2 (pc := 40) hC (2 : Int64) dX4_lengthOf_40 mw_437 ?_
      refine mg_lload (pc := 43) hC 2 dX4_lengthOf_43 rfl ?_
      refine mg_lmul (pc := 45) hC dX4_lengthOf_45 ?_
      refine mg_lload_n (pc := 46) hC 0 dX4_lengthOf_46 rfl ?_
      refine mg_lrem (pc := 47) hC dX4_lengthOf_47 ?_
      refine mg_lstore (pc := 48) hC [(5, .long (((2 : Int64) * x5) - ((2 : Int64) * x5) / x2 * x2)), (2, .long x2), (4, .int x4)] dX4_lengthOf_48 (by decide) rfl ?_
      refine mg_iinc (pc := 50) hC 2 (x4 + (1 : Int32)) [(4, .int (x4 + (1 : Int32))), (5, .long (((2 : Int64) * x5) - ((2 : Int64) * x5) / x2 * x2)), (2, .long x2)] dX4_lengthOf_50 rfl rfl (by decide) rfl ?_
      refine mg_goto (pc := 53) hC 31 dX4_lengthOf_53 (by decide) ?_
      exact mg_sub (pc := 31) [2, 0, 1] (L' := [(2, .long x2), (4, .int (x4 + (1 : Int32))), (5, .long (((2 : Int64) * x5) - ((2 : Int64) * x5) / x2 * x2))]) rfl (ih _ _ _ _ _)
def fX4_lengthOf_b21 (x2 : Int64) : Option (Int32) := if x2 = 0 then none else (fX4_lengthOf_b31 mg_N x2 (1 : Int32) ((2 : Int64) - (2 : Int64) / x2 * x2))
set_option maxHeartbeats 4000000 in
set_option maxRecDepth 100000 in
theorem gX4_lengthOf_b21 (hC : mg_Cx E p s m args meth c cX4_lengthOf 7 (some .int) RX4) (w : mg_H) (sz : Nat) (x2 : Int64) (cells slots : Nat) : mg_G E p l e ({ frames := 0, cells := C, slots := S, locals := 0 } : Room) s m args below meth c 7 (mg_oR mg_vI w) (fX4_lengthOf_b21 x2) w sz cells slots 21 [(2, .long x2)] [] := by
  unfold fX4_lengthOf_b21
  refine mg_iconst (pc := 21) hC (1 : Int32) dX4_lengthOf_21 (by decide) ?_
  refine mg_istore (pc := 22) hC [(4, .int (1 : Int32)), (2, .long x2)] dX4_lengthOf_22 (by decide) rfl ?_
  refine mg_ldc2 (pc := 24) hC (2 : Int64) dX4_lengthOf_24 mw_437 ?_
  refine mg_lload_n (pc := 27) hC 1 dX4_lengthOf_27 rfl ?_
  refine mg_lrem (pc := 28) hC dX4_lengthOf_28 ?_
  refine mg_lstore (pc := 29) hC [(5, .long ((2 : Int64) - (2 : Int64) / x2 * x2)), (4, .int (1 : Int32)), (2, .long x2)] dX4_lengthOf_29 (by decide) rfl ?_
  exact mg_sub (pc := 31) [2, 1, 0] (L' := [(2, .long x2), (4, .int (1 : Int32)), (5, .long ((2 : Int64) - (2 : Int64) / x2 * x2))]) rfl (gX4_lengthOf_b31 hC _ _  _ _ _ _ _ _)
def fX4_lengthOf_b2 : Nat → Int64 → Option (Int32)
  | 0, _ => none
  | n + 1, x2 => if (2 : Int64) = 0 then none else (if (lg_cmp (x2 - x2 / (2 : Int64) * (2 : Int64)) (0 : Int64)) = 0 then (if (2 : Int64) = 0 then none else (fX4_lengthOf_b2 n (x2 / (2 : Int64)))) else (fX4_lengthOf_b21 x2))
set_option maxHeartbeats 4000000 in
set_option maxRecDepth 100000 in
theorem gX4_lengthOf_b2 (hC : mg_Cx E p s m args meth c cX4_lengthOf 7 (some .int) RX4) (w : mg_H) (sz : Nat) : ∀ (n : Nat) (x2 : Int64) (cells slots : Nat), mg_G E p l e ({ frames := 0, cells := C, slots := S, locals := 0 } : Room) s m args below meth c 7 (mg_oR mg_vI w) (fX4_lengthOf_b2 n x2) w sz cells slots 2 [(2, .long x2)] [] := by
  intro n
  induction n with
  | zero => intros; exact fun o hf => by rw [fX4_lengthOf_b2] at hf; cases hf
  | succ n ih =>
    intro x2 cells slots
    rw [fX4_lengthOf_b2]
    refine mg_lload_n (pc := 2) hC 0 dX4_lengthOf_2 rfl ?_
    refine mg_ldc2 (pc := 3) hC (2 : Int64) dX4_lengthOf_3 mw_437 ?_
    refine mg_lrem (pc := 6) hC dX4_lengthOf_6 ?_
    refine mg_lconst (pc := 7) hC (0 : Int64) dX4_lengthOf_7 (by decide) ?_
    refine mg_lcmp (pc := 8) hC dX4_lengthOf_8 ?_
    refine mg_if_ne (pc := 9) hC 21 dX4_lengthOf_9 (by decide) (fun _ => ?_) (fun _ => ?_)
    · refine mg_lload_n (pc := 12) hC 0 dX4_lengthOf_12 rfl ?_
      refine mg_ldc2 (pc := 13) hC (2 : Int64) dX4_lengthOf_13 mw_437 ?_
      refine mg_ldiv (pc := 16) hC dX4_lengthOf_16 ?_
      refine mg_lstore_n (pc := 17) hC [(2, .long (x2 / (2 : Int64)))] dX4_lengthOf_17 (by decide) rfl ?_
      refine mg_goto (pc := 18) hC 2 dX4_lengthOf_18 (by decide) ?_
      exact mg_sub (pc := 2) [0] (L' := [(2, .long (x2 / (2 : Int64)))]) rfl (ih _ _ _)
    · exact mg_sub (pc := 21) [0] (L' := [(2, .long x2)]) rfl (gX4_lengthOf_b21 hC _ _  _ _ _)
def fX4_lengthOf (x0 : Int64) : Option (Int32) := fX4_lengthOf_b2 mg_N x0
set_option maxHeartbeats 4000000 in
set_option maxRecDepth 100000 in
theorem kX4_lengthOf {E : mg_P} {l : Launch} {x0 : Int64} {w : mg_H} {sz : Nat} {o : Int32} (hf : fX4_lengthOf x0 = some o) : mg_C E l yX4_lengthOf cX4_lengthOf 7 (some .int) 0 0 [.long x0] w sz ((mg_oR mg_vI w) o) := by
  refine mg_meth (out := (mg_oR mg_vI w)) (by decide) (Nat.le_of_ble_eq_true rfl) hf ?_
  intro p e C S s m below meth c hC hin
  have hC : mg_Cx E p s m _ meth c cX4_lengthOf 7 (some .int) RX4 := hC
  unfold fX4_lengthOf
  refine mg_sub (pc := 0) [0] (L' := [(0, .long x0)]) rfl ?_
  refine mg_lload_n (pc := 0) hC 0 dX4_lengthOf_0 rfl ?_
  refine mg_lstore_n (pc := 1) hC [(2, .long x0), (0, .long x0)] dX4_lengthOf_1 (by decide) rfl ?_
  exact mg_sub (pc := 2) [0] (L' := [(2, .long x0)]) rfl (gX4_lengthOf_b2 hC _ _  _ _ _ _)
theorem wdX4_lengthOf : mg_Wd yX4_lengthOf cX4_lengthOf 7 (some .int) 1 := ⟨mw_436, mw_2, by decide, by decide, by decide +kernel⟩
end MG06
