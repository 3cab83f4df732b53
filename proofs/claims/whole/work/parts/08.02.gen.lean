section MG02
variable {E : mg_P} {p : Program} {l : Launch} {e : Env} {C S : Nat} {s : State} {m : MethodId} {args : Array Value} {below : List Frame} {meth : Method} {c : Code}
def fX2_comesBack (x0 : Nat) (w : mg_H) : Option (Int32) := (mg_gI w 2 x0 2).bind fun v1 => if v1 = 0 then (some (1 : Int32)) else (some (0 : Int32))
set_option maxHeartbeats 4000000 in
set_option maxRecDepth 100000 in
theorem kX2_comesBack {E : mg_P} {l : Launch} {x0 : Nat} {w : mg_H} {sz : Nat} {o : Int32} (hf : fX2_comesBack x0 w = some o) : mg_C E l yX2_comesBack cX2_comesBack 1 (some .boolean) 0 0 [.ref x0] w sz ((mg_oR mg_vI w) o) := by
  refine mg_meth (out := (mg_oR mg_vI w)) (by decide) (Nat.le_of_ble_eq_true rfl) hf ?_
  intro p e C S s m below meth c hC hin
  have hC : mg_Cx E p s m _ meth c cX2_comesBack 1 (some .boolean) RX2 := hC
  unfold fX2_comesBack
  refine mg_sub (pc := 0) [0] (L' := [(0, .ref x0)]) rfl ?_
  refine mg_aload_n (pc := 0) hC 0 dX2_comesBack_0 rfl ?_
  refine mg_getI (pc := 1) (ci := 2) (k := 2) hC mi_2 rfl (by decide) mw_75 dX2_comesBack_1 (fun v1 _ => ?_)
  refine mg_if_ne (pc := 4) hC 11 dX2_comesBack_4 (by decide) (fun _ => ?_) (fun _ => ?_)
  · refine mg_iconst (pc := 7) hC (1 : Int32) dX2_comesBack_7 (by decide) ?_
    refine mg_goto (pc := 8) hC 12 dX2_comesBack_8 (by decide) ?_
    exact mg_zretC (pc := 12) hC (by decide) rfl dX2_comesBack_12
  · refine mg_iconst (pc := 11) hC (0 : Int32) dX2_comesBack_11 (by decide) ?_
    exact mg_zretC (pc := 12) hC (by decide) rfl dX2_comesBack_12
theorem wdX2_comesBack : mg_WdV 2 yX2_comesBack cX2_comesBack 1 (some .boolean) 0 := ⟨⟨mw_146, mw_3, by decide, by decide, by decide +kernel⟩, _, rfl, mw_144, mw_145⟩
def fX2_against (x0 : Nat) (x1 : Nat) (w : mg_H) : Option (Int32) := (mg_gI w 2 x0 0).bind fun v1 => (mg_gI w 2 x1 1).bind fun v2 => (mg_gI w 2 x1 0).bind fun v3 => (mg_gI w 2 x0 1).bind fun v4 => (fX3_order ((v1.toInt64) * (v2.toInt64)) ((v3.toInt64) * (v4.toInt64))).bind fun v5 => some v5
set_option maxHeartbeats 4000000 in
set_option maxRecDepth 100000 in
theorem kX2_against {E : mg_P} {l : Launch} {x0 : Nat} {x1 : Nat} {w : mg_H} {sz : Nat} {o : Int32} (hf : fX2_against x0 x1 w = some o) : mg_C E l yX2_against cX2_against 2 (some .int) 1 23 [.ref x0, .ref x1] w sz ((mg_oR mg_vI w) o) := by
  refine mg_meth (out := (mg_oR mg_vI w)) (by decide) (Nat.le_of_ble_eq_true rfl) hf ?_
  intro p e C S s m below meth c hC hin
  have hC : mg_Cx E p s m _ meth c cX2_against 2 (some .int) RX2 := hC
  unfold fX2_against
  refine mg_sub (pc := 0) [0, 1] (L' := [(0, .ref x0), (1, .ref x1)]) rfl ?_
  refine mg_aload_n (pc := 0) hC 0 dX2_against_0 rfl ?_
  refine mg_getI (pc := 1) (ci := 2) (k := 0) hC mi_2 rfl (by decide) mw_69 dX2_against_1 (fun v1 _ => ?_)
  refine mg_i2l (pc := 4) hC dX2_against_4 ?_
  refine mg_aload_n (pc := 5) hC 1 dX2_against_5 rfl ?_
  refine mg_getI (pc := 6) (ci := 2) (k := 1) hC mi_2 rfl (by decide) mw_72 dX2_against_6 (fun v2 _ => ?_)
  refine mg_i2l (pc := 9) hC dX2_against_9 ?_
  refine mg_lmul (pc := 10) hC dX2_against_10 ?_
  refine mg_aload_n (pc := 11) hC 1 dX2_against_11 rfl ?_
  refine mg_getI (pc := 12) (ci := 2) (k := 0) hC mi_2 rfl (by decide) mw_69 dX2_against_12 (fun v3 _ => ?_)
  refine mg_i2l (pc := 15) hC dX2_against_15 ?_
  refine mg_aload_n (pc := 16) hC 0 dX2_against_16 rfl ?_
  refine mg_getI (pc := 17) (ci := 2) (k := 1) hC mi_2 rfl (by decide) mw_72 dX2_against_17 (fun v4 _ => ?_)
  refine mg_i2l (pc := 20) hC dX2_against_20 ?_
  refine mg_lmul (pc := 21) hC dX2_against_21 ?_
  refine mg_cRI (pc := 22) (fun r hr => mg_SN (rest := []) hC wdX3_order mw_137 (List.mem_of_getElem? (i := 3) rfl) dX2_against_22 rfl rfl ⟨Nat.le_of_ble_eq_true rfl, Nat.le_of_ble_eq_true rfl⟩ (Nat.le_of_ble_eq_true rfl) (kX3_order hr)) (fun v5 _ => ?_)
  exact mg_iret (pc := 25) hC rfl dX2_against_25
theorem wdX2_against : mg_WdV 2 yX2_against cX2_against 2 (some .int) 1 := ⟨⟨mw_163, mw_3, by decide, by decide, by decide +kernel⟩, _, rfl, mw_161, mw_162⟩
def fX2_letterOf (x0 : Nat) (x1 : Int32) (x2 : Int32) (w : mg_H) : Option (Int32) := (mg_gI w 2 x0 1).bind fun v1 => (mg_gI w 2 x0 0).bind fun v2 => (fX3_order (((2 : Int64) * (x1.toInt64)) * (v1.toInt64)) ((v2.toInt64) * (x2.toInt64))).bind fun v3 => (mg_gI w 2 x0 0).bind fun v4 => (mg_gI w 2 x0 1).bind fun v5 => (fX3_order (((2 : Int64) * (x1.toInt64)) * (v1.toInt64)) (((v4.toInt64) + (v5.toInt64)) * (x2.toInt64))).bind fun v6 => if v3 = 0 then (some (2 : Int32)) else (if v6 = 0 then (some (2 : Int32)) else (if v3 ≤ 0 then (some (0 : Int32)) else (if 0 ≤ v6 then (some (0 : Int32)) else (some (1 : Int32)))))
set_option maxHeartbeats 4000000 in
set_option maxRecDepth 100000 in
theorem kX2_letterOf {E : mg_P} {l : Launch} {x0 : Nat} {x1 : Int32} {x2 : Int32} {w : mg_H} {sz : Nat} {o : Int32} (hf : fX2_letterOf x0 x1 x2 w = some o) : mg_C E l yX2_letterOf cX2_letterOf 7 (some .int) 1 23 [.ref x0, .int x1, .int x2] w sz ((mg_oR mg_vI w) o) := by
  refine mg_meth (out := (mg_oR mg_vI w)) (by decide) (Nat.le_of_ble_eq_true rfl) hf ?_
  intro p e C S s m below meth c hC hin
  have hC : mg_Cx E p s m _ meth c cX2_letterOf 7 (some .int) RX2 := hC
  unfold fX2_letterOf
  refine mg_sub (pc := 0) [0, 1, 2] (L' := [(0, .ref x0), (1, .int x1), (2, .int x2)]) rfl ?_
  refine mg_ldc2 (pc := 0) hC (2 : Int64) dX2_letterOf_0 mw_135 ?_
  refine mg_iload_n (pc := 3) hC 1 dX2_letterOf_3 rfl ?_
  refine mg_i2l (pc := 4) hC dX2_letterOf_4 ?_
  refine mg_lmul (pc := 5) hC dX2_letterOf_5 ?_
  refine mg_aload_n (pc := 6) hC 0 dX2_letterOf_6 rfl ?_
  refine mg_getI (pc := 7) (ci := 2) (k := 1) hC mi_2 rfl (by decide) mw_72 dX2_letterOf_7 (fun v1 _ => ?_)
  refine mg_i2l (pc := 10) hC dX2_letterOf_10 ?_
  refine mg_lmul (pc := 11) hC dX2_letterOf_11 ?_
  refine mg_lstore_n (pc := 12) hC [(3, .long (((2 : Int64) * (x1.toInt64)) * (v1.toInt64))), (0, .ref x0), (1, .int x1), (2, .int x2)] dX2_letterOf_12 (by decide) rfl ?_
  refine mg_lload_n (pc := 13) hC 0 dX2_letterOf_13 rfl ?_
  refine mg_aload_n (pc := 14) hC 1 dX2_letterOf_14 rfl ?_
  refine mg_getI (pc := 15) (ci := 2) (k := 0) hC mi_2 rfl (by decide) mw_69 dX2_letterOf_15 (fun v2 _ => ?_)
  refine mg_i2l (pc := 18) hC dX2_letterOf_18 ?_
  refine mg_iload_n (pc := 19) hC 3 dX2_letterOf_19 rfl ?_
  refine mg_i2l (pc := 20) hC dX2_letterOf_20 ?_
  refine mg_lmul (pc := 21) hC dX2_letterOf_21 ?_
  refine mg_cRI (pc := 22) (fun r hr => mg_SN (rest := []) hC wdX3_order mw_137 (List.mem_of_getElem? (i := 3) rfl) dX2_letterOf_22 rfl rfl ⟨Nat.le_of_ble_eq_true rfl, Nat.le_of_ble_eq_true rfl⟩ (Nat.le_of_ble_eq_true rfl) (kX3_order hr)) (fun v3 _ => ?_)
  refine mg_istore (pc := 25) hC [(5, .int v3), (3, .long (((2 : Int64) * (x1.toInt64)) * (v1.toInt64))), (0, .ref x0), (1, .int x1), (2, .int x2)] dX2_letterOf_25 (by decide) rfl ?_
  refine mg_lload_n (pc := 27) hC 1 dX2_letterOf_27 rfl ?_
  refine mg_aload_n (pc := 28) hC 2 dX2_letterOf_28 rfl ?_
  refine mg_getI (pc := 29) (ci := 2) (k := 0) hC mi_2 rfl (by decide) mw_69 dX2_letterOf_29 (fun v4 _ => ?_)
  refine mg_i2l (pc := 32) hC dX2_letterOf_32 ?_
  refine mg_aload_n (pc := 33) hC 2 dX2_letterOf_33 rfl ?_
  refine mg_getI (pc := 34) (ci := 2) (k := 1) hC mi_2 rfl (by decide) mw_72 dX2_letterOf_34 (fun v5 _ => ?_)
  refine mg_i2l (pc := 37) hC dX2_letterOf_37 ?_
  refine mg_ladd (pc := 38) hC dX2_letterOf_38 ?_
  refine mg_iload_n (pc := 39) hC 4 dX2_letterOf_39 rfl ?_
  refine mg_i2l (pc := 40) hC dX2_letterOf_40 ?_
  refine mg_lmul (pc := 41) hC dX2_letterOf_41 ?_
  refine mg_cRI (pc := 42) (fun r hr => mg_SN (rest := []) hC wdX3_order mw_137 (List.mem_of_getElem? (i := 3) rfl) dX2_letterOf_42 rfl rfl ⟨Nat.le_of_ble_eq_true rfl, Nat.le_of_ble_eq_true rfl⟩ (Nat.le_of_ble_eq_true rfl) (kX3_order hr)) (fun v6 _ => ?_)
  refine mg_istore (pc := 45) hC [(6, .int v6), (5, .int v3), (3, .long (((2 : Int64) * (x1.toInt64)) * (v1.toInt64))), (0, .ref x0), (1, .int x1), (2, .int x2)] dX2_letterOf_45 (by decide) rfl ?_
  refine mg_iload (pc := 47) hC 1 dX2_letterOf_47 rfl ?_
  refine mg_if_eq (pc := 49) hC 57 dX2_letterOf_49 (by decide) (fun _ => ?_) (fun _ => ?_)
  · refine mg_iconst (pc := 57) hC (2 : Int32) dX2_letterOf_57 (by decide) ?_
    exact mg_iret (pc := 58) hC rfl dX2_letterOf_58
  · refine mg_iload (pc := 52) hC 0 dX2_letterOf_52 rfl ?_
    refine mg_if_ne (pc := 54) hC 59 dX2_letterOf_54 (by decide) (fun _ => ?_) (fun _ => ?_)
    · refine mg_iconst (pc := 57) hC (2 : Int32) dX2_letterOf_57 (by decide) ?_
      exact mg_iret (pc := 58) hC rfl dX2_letterOf_58
    · refine mg_iload (pc := 59) hC 1 dX2_letterOf_59 rfl ?_
      refine mg_if_le (pc := 61) hC 73 dX2_letterOf_61 (by decide) (fun _ => ?_) (fun _ => ?_)
      · refine mg_iconst (pc := 73) hC (0 : Int32) dX2_letterOf_73 (by decide) ?_
        exact mg_iret (pc := 74) hC rfl dX2_letterOf_74
      · refine mg_iload (pc := 64) hC 0 dX2_letterOf_64 rfl ?_
        refine mg_if_ge (pc := 66) hC 73 dX2_letterOf_66 (by decide) (fun _ => ?_) (fun _ => ?_)
        · refine mg_iconst (pc := 73) hC (0 : Int32) dX2_letterOf_73 (by decide) ?_
          exact mg_iret (pc := 74) hC rfl dX2_letterOf_74
        · refine mg_iconst (pc := 69) hC (1 : Int32) dX2_letterOf_69 (by decide) ?_
          refine mg_goto (pc := 70) hC 74 dX2_letterOf_70 (by decide) ?_
          exact mg_iret (pc := 74) hC rfl dX2_letterOf_74
theorem wdX2_letterOf : mg_WdV 2 yX2_letterOf cX2_letterOf 7 (some .int) 2 := ⟨⟨mw_134, mw_3, by decide, by decide, by decide +kernel⟩, _, rfl, mw_132, mw_133⟩
def fX2_inParts (x0 : Nat) (w : mg_H) : Option (Int32) := (mg_gI w 2 x0 0).bind fun v1 => (mg_gI w 2 x0 1).bind fun v2 => (fX3_over (21082635 : Int64) (v2.toInt64)).bind fun v3 => some (((v1.toInt64) * v3).toInt32)
set_option maxHeartbeats 4000000 in
set_option maxRecDepth 100000 in
theorem kX2_inParts {E : mg_P} {l : Launch} {x0 : Nat} {w : mg_H} {sz : Nat} {o : Int32} (hf : fX2_inParts x0 w = some o) : mg_C E l yX2_inParts cX2_inParts 1 (some .int) 1 23 [.ref x0] w sz ((mg_oR mg_vI w) o) := by
  refine mg_meth (out := (mg_oR mg_vI w)) (by decide) (Nat.le_of_ble_eq_true rfl) hf ?_
  intro p e C S s m below meth c hC hin
  have hC : mg_Cx E p s m _ meth c cX2_inParts 1 (some .int) RX2 := hC
  unfold fX2_inParts
  refine mg_sub (pc := 0) [0] (L' := [(0, .ref x0)]) rfl ?_
  refine mg_aload_n (pc := 0) hC 0 dX2_inParts_0 rfl ?_
  refine mg_getI (pc := 1) (ci := 2) (k := 0) hC mi_2 rfl (by decide) mw_69 dX2_inParts_1 (fun v1 _ => ?_)
  refine mg_i2l (pc := 4) hC dX2_inParts_4 ?_
  refine mg_ldc2 (pc := 5) hC (21082635 : Int64) dX2_inParts_5 mw_271 ?_
  refine mg_aload_n (pc := 8) hC 0 dX2_inParts_8 rfl ?_
  refine mg_getI (pc := 9) (ci := 2) (k := 1) hC mi_2 rfl (by decide) mw_72 dX2_inParts_9 (fun v2 _ => ?_)
  refine mg_i2l (pc := 12) hC dX2_inParts_12 ?_
  refine mg_cRL (pc := 13) (fun r hr => mg_SN (rest := [.long (v1.toInt64)]) hC wdX3_over mw_54 (List.mem_of_getElem? (i := 1) rfl) dX2_inParts_13 rfl rfl ⟨Nat.le_of_ble_eq_true rfl, Nat.le_of_ble_eq_true rfl⟩ (Nat.le_of_ble_eq_true rfl) (kX3_over hr)) (fun v3 _ => ?_)
  refine mg_lmul (pc := 16) hC dX2_inParts_16 ?_
  refine mg_l2i (pc := 17) hC dX2_inParts_17 ?_
  exact mg_iret (pc := 18) hC rfl dX2_inParts_18
theorem wdX2_inParts : mg_WdV 2 yX2_inParts cX2_inParts 1 (some .int) 0 := ⟨⟨mw_270, mw_3, by decide, by decide, by decide +kernel⟩, _, rfl, mw_268, mw_269⟩
def fX3_init (x0 : Nat) (w : mg_H) (sz : Nat) : Option (Unit × mg_H × Nat × Nat) := mg_naQ w sz 3 (16 : Int32) fun w1 => (mg_pQ w1 3 x0 0 (some sz)).bind fun w2 => mg_naQ w2 (sz + 1) 4 (4 : Int32) fun w3 => (mg_pQ w3 3 x0 1 (some (sz + 1))).bind fun w4 => mg_naI w4 (sz + 1 + 1) 0 (512 : Int32) fun w5 => (mg_pQ w5 3 x0 2 (some (sz + 1 + 1))).bind fun w6 => (mg_pI w6 3 x0 3 (0 : Int32)).bind fun w7 => (mg_pQ w7 3 x0 4 none).bind fun w8 => some ((), w8, 0, 0)
set_option maxHeartbeats 4000000 in
set_option maxRecDepth 100000 in
theorem kX3_init {E : mg_P} {l : Launch} {x0 : Nat} {w : mg_H} {sz : Nat} {o : Unit × mg_H × Nat × Nat} (hf : fX3_init x0 w sz = some o) : mg_C E l yX3_init cX3_init 1 none 1 21 [.ref x0] w sz ((mg_oA mg_vV) o) := by
  refine mg_meth (out := (mg_oA mg_vV)) (by decide) (Nat.le_of_ble_eq_true rfl) hf ?_
  intro p e C S s m below meth c hC hin
  have hC : mg_Cx E p s m _ meth c cX3_init 1 none RX3 := hC
  have hin : meth.name = "<init>" := hin
  unfold fX3_init
  refine mg_sub (pc := 0) [0] (L' := [(0, .ref x0)]) rfl ?_
  refine mg_aload_n (pc := 0) hC 0 dX3_init_0 rfl ?_
  refine mg_objInit (pc := 1) hC mw_12 mw_13 mw_14 (Nat.le_of_ble_eq_true rfl) (Nat.le_of_ble_eq_true rfl) dX3_init_1 ?_
  refine mg_aload_n (pc := 4) hC 0 dX3_init_4 rfl ?_
  refine mg_bipush (pc := 5) hC (16 : Int32) dX3_init_5 (by decide) ?_
  refine mg_newaQ3 (pc := 7) hC mw_15 dX3_init_7 ?_
  refine mg_putQ (pc := 10) (ci := 3) (k := 0) (v := (some sz)) hC mi_3 rfl (by decide) tyX3 tyX3_ok nmX3 mw_19 dX3_init_10 (Or.inr ⟨rfl, hin, rfl⟩) mg_rfA mg_ftA (fun w2 _ => ?_)
  refine mg_aload_n (pc := 13) hC 0 dX3_init_13 rfl ?_
  refine mg_iconst (pc := 14) hC (4 : Int32) dX3_init_14 (by decide) ?_
  refine mg_newaQ4 (pc := 15) hC mw_17 dX3_init_15 ?_
  refine mg_putQ (pc := 18) (ci := 3) (k := 1) (v := (some (sz + 1))) hC mi_3 rfl (by decide) tyX3 tyX3_ok nmX3 mw_20 dX3_init_18 (Or.inr ⟨rfl, hin, rfl⟩) mg_rfA mg_ftA (fun w4 _ => ?_)
  refine mg_aload_n (pc := 21) hC 0 dX3_init_21 rfl ?_
  refine mg_sipush (pc := 22) hC (512 : Int32) dX3_init_22 (by decide) ?_
  refine mg_newaI (pc := 25) hC mw_35 dX3_init_25 ?_
  refine mg_putQ (pc := 27) (ci := 3) (k := 2) (v := (some (sz + 1 + 1))) hC mi_3 rfl (by decide) tyX3 tyX3_ok nmX3 mw_21 dX3_init_27 (Or.inr ⟨rfl, hin, rfl⟩) mg_rfA mg_ftA (fun w6 _ => ?_)
  refine mg_aload_n (pc := 30) hC 0 dX3_init_30 rfl ?_
  refine mg_iconst (pc := 31) hC (0 : Int32) dX3_init_31 (by decide) ?_
  refine mg_putI (pc := 32) (ci := 3) (k := 3) hC mi_3 rfl (by decide) tyX3 tyX3_ok nmX3 mw_22 dX3_init_32 (Or.inl rfl) rfl (fun w7 _ => ?_)
  refine mg_aload_n (pc := 35) hC 0 dX3_init_35 rfl ?_
  refine mg_null (pc := 36) hC dX3_init_36 ?_
  refine mg_putQ (pc := 37) (ci := 3) (k := 4) (v := none) hC mi_3 rfl (by decide) tyX3 tyX3_ok nmX3 mw_23 dX3_init_37 (Or.inl rfl) mg_rfO mg_ftO (fun w8 _ => ?_)
  exact mg_vret (pc := 40) hC rfl dX3_init_40
theorem wdX3_init : mg_Wd yX3_init cX3_init 1 none 0 := ⟨mw_11, mw_1, by decide, by decide, by decide +kernel⟩
def fX3_keep (x0 : Nat) (x1 : Int64) (x3 : Int64) (w : mg_H) (sz : Nat) : Option (Int32 × mg_H × Nat × Nat) := (mg_gI w 3 x0 3).bind fun v1 => if v1 < (16 : Int32) then (mg_gN w 3 x0 0 fun v2 => (mg_gI w 3 x0 3).bind fun v3 => mg_nw w sz 2 [.int 0, .int 0, .int 0, .int 0] 4 fun w4 => mg_bS (fX2_init sz x1 x3 w4) fun _ w6 => (mg_stQ w6 3 2 v2 v3 sz).bind fun w7 => (mg_gI w7 3 x0 3).bind fun v8 => (mg_pI w7 3 x0 3 (v8 + (1 : Int32))).bind fun w9 => (mg_gI w9 3 x0 3).bind fun v10 => some ((v10 - (1 : Int32)), w9, 0, 0)) else (some ((-3 : Int32), w, 0, 0))
set_option maxHeartbeats 4000000 in
set_option maxRecDepth 100000 in
theorem kX3_keep {E : mg_P} {l : Launch} {x0 : Nat} {x1 : Int64} {x3 : Int64} {w : mg_H} {sz : Nat} {o : Int32 × mg_H × Nat × Nat} (hf : fX3_keep x0 x1 x3 w sz = some o) : mg_C E l yX3_keep cX3_keep 5 (some .int) 3 71 [.ref x0, .long x1, .long x3] w sz ((mg_oA mg_vI) o) := by
  refine mg_meth (out := (mg_oA mg_vI)) (by decide) (Nat.le_of_ble_eq_true rfl) hf ?_
  intro p e C S s m below meth c hC hin
  have hC : mg_Cx E p s m _ meth c cX3_keep 5 (some .int) RX3 := hC
  unfold fX3_keep
  refine mg_sub (pc := 0) [0, 1, 2] (L' := [(0, .ref x0), (1, .long x1), (3, .long x3)]) rfl ?_
  refine mg_aload_n (pc := 0) hC 0 dX3_keep_0 rfl ?_
  refine mg_getI (pc := 1) (ci := 3) (k := 3) hC mi_3 rfl (by decide) mw_22 dX3_keep_1 (fun v1 _ => ?_)
  refine mg_bipush (pc := 4) hC (16 : Int32) dX3_keep_4 (by decide) ?_
  refine mg_icmp_lt (pc := 6) hC 12 dX3_keep_6 (by decide) (fun _ => ?_) (fun _ => ?_)
  · refine mg_aload_n (pc := 12) hC 0 dX3_keep_12 rfl ?_
    refine mg_getNN (pc := 13) (ci := 3) (k := 0) hC mi_3 rfl (by decide) mw_19 dX3_keep_13 (fun v2 _ => ?_)
    refine mg_aload_n (pc := 16) hC 0 dX3_keep_16 rfl ?_
    refine mg_getI (pc := 17) (ci := 3) (k := 3) hC mi_3 rfl (by decide) mw_22 dX3_keep_17 (fun v3 _ => ?_)
    refine mg_newO (pc := 20) (ci := 2) hC mi_2 rfl tyX2 tyX2_ok [.int 0, .int 0, .int 0, .int 0] (fun j hj => by rcases (show j = 0 ∨ j = 1 ∨ j = 2 ∨ j = 3 by omega) with rfl | rfl | rfl | rfl <;> rfl) mw_15 mw_45 mw_3 dX3_keep_20 ?_
    refine mg_dup (pc := 23) hC dX3_keep_23 rfl ?_
    refine mg_lload_n (pc := 24) hC 1 dX3_keep_24 rfl ?_
    refine mg_lload_n (pc := 25) hC 2 dX3_keep_25 rfl ?_
    refine mg_cSV (pc := 26) (fun r hr => mg_I (rest := [.ref sz, .int v3, .ref v2]) (av := [.long x1, .long x3]) hC wdX2_init mw_47 mw_46 dX3_keep_26 rfl rfl ⟨Nat.le_of_ble_eq_true rfl, Nat.le_of_ble_eq_true rfl⟩ (Nat.le_of_ble_eq_true rfl) rfl (kX2_init hr)) (fun _ w6 _ => ?_)
    refine mg_aast3 (pc := 29) hC dX3_keep_29 (fun w7 _ => ?_)
    refine mg_aload_n (pc := 30) hC 0 dX3_keep_30 rfl ?_
    refine mg_dup (pc := 31) hC dX3_keep_31 rfl ?_
    refine mg_getI (pc := 32) (ci := 3) (k := 3) hC mi_3 rfl (by decide) mw_22 dX3_keep_32 (fun v8 _ => ?_)
    refine mg_iconst (pc := 35) hC (1 : Int32) dX3_keep_35 (by decide) ?_
    refine mg_iadd (pc := 36) hC dX3_keep_36 ?_
    refine mg_putI (pc := 37) (ci := 3) (k := 3) hC mi_3 rfl (by decide) tyX3 tyX3_ok nmX3 mw_22 dX3_keep_37 (Or.inl rfl) rfl (fun w9 _ => ?_)
    refine mg_aload_n (pc := 40) hC 0 dX3_keep_40 rfl ?_
    refine mg_getI (pc := 41) (ci := 3) (k := 3) hC mi_3 rfl (by decide) mw_22 dX3_keep_41 (fun v10 _ => ?_)
    refine mg_iconst (pc := 44) hC (1 : Int32) dX3_keep_44 (by decide) ?_
    refine mg_isub (pc := 45) hC dX3_keep_45 ?_
    exact mg_iret (pc := 46) hC rfl dX3_keep_46
  · refine mg_bipush (pc := 9) hC (-3 : Int32) dX3_keep_9 (by decide) ?_
    exact mg_iret (pc := 11) hC rfl dX3_keep_11
theorem wdX3_keep : mg_WdV 3 yX3_keep cX3_keep 5 (some .int) 2 := ⟨⟨mw_44, mw_1, by decide, by decide, by decide +kernel⟩, _, rfl, mw_43, mw_p0⟩
def fX3_angle (x0 : Nat) (x1 : Int64) (x3 : Int64) (w : mg_H) (sz : Nat) : Option (Int32 × mg_H × Nat × Nat) := if (lg_cmp x3 (1 : Int64)) < 0 then (some ((-1 : Int32), w, 0, 0)) else (if 0 < (lg_cmp x3 (511 : Int64)) then (some ((-1 : Int32), w, 0, 0)) else (if (lg_cmp x1 (0 : Int64)) < 0 then (some ((-1 : Int32), w, 0, 0)) else (if (lg_cmp x1 x3) < 0 then (mg_rc w 3 x0 (mg_bA (fX3_keep x0 x1 x3 w sz) fun v1 w2 kc3 ks4 => some (v1, w2, 0, 0))) else (some ((-1 : Int32), w, 0, 0)))))
set_option maxHeartbeats 4000000 in
set_option maxRecDepth 100000 in
theorem kX3_angle {E : mg_P} {l : Launch} {x0 : Nat} {x1 : Int64} {x3 : Int64} {w : mg_H} {sz : Nat} {o : Int32 × mg_H × Nat × Nat} (hf : fX3_angle x0 x1 x3 w sz = some o) : mg_C E l yX3_angle cX3_angle 5 (some .int) 4 95 [.ref x0, .long x1, .long x3] w sz ((mg_oA mg_vI) o) := by
  refine mg_meth (out := (mg_oA mg_vI)) (by decide) (Nat.le_of_ble_eq_true rfl) hf ?_
  intro p e C S s m below meth c hC hin
  have hC : mg_Cx E p s m _ meth c cX3_angle 5 (some .int) RX3 := hC
  unfold fX3_angle
  refine mg_sub (pc := 0) [0, 1, 2] (L' := [(0, .ref x0), (1, .long x1), (3, .long x3)]) rfl ?_
  refine mg_lload_n (pc := 0) hC 2 dX3_angle_0 rfl ?_
  refine mg_lconst (pc := 1) hC (1 : Int64) dX3_angle_1 (by decide) ?_
  refine mg_lcmp (pc := 2) hC dX3_angle_2 ?_
  refine mg_if_lt (pc := 3) hC 26 dX3_angle_3 (by decide) (fun _ => ?_) (fun _ => ?_)
  · refine mg_iconst (pc := 26) hC (-1 : Int32) dX3_angle_26 (by decide) ?_
    exact mg_iret (pc := 27) hC rfl dX3_angle_27
  · refine mg_lload_n (pc := 6) hC 2 dX3_angle_6 rfl ?_
    refine mg_ldc2 (pc := 7) hC (511 : Int64) dX3_angle_7 mw_40 ?_
    refine mg_lcmp (pc := 10) hC dX3_angle_10 ?_
    refine mg_if_gt (pc := 11) hC 26 dX3_angle_11 (by decide) (fun _ => ?_) (fun _ => ?_)
    · refine mg_iconst (pc := 26) hC (-1 : Int32) dX3_angle_26 (by decide) ?_
      exact mg_iret (pc := 27) hC rfl dX3_angle_27
    · refine mg_lload_n (pc := 14) hC 1 dX3_angle_14 rfl ?_
      refine mg_lconst (pc := 15) hC (0 : Int64) dX3_angle_15 (by decide) ?_
      refine mg_lcmp (pc := 16) hC dX3_angle_16 ?_
      refine mg_if_lt (pc := 17) hC 26 dX3_angle_17 (by decide) (fun _ => ?_) (fun _ => ?_)
      · refine mg_iconst (pc := 26) hC (-1 : Int32) dX3_angle_26 (by decide) ?_
        exact mg_iret (pc := 27) hC rfl dX3_angle_27
      · refine mg_lload_n (pc := 20) hC 1 dX3_angle_20 rfl ?_
        refine mg_lload_n (pc := 21) hC 2 dX3_angle_21 rfl ?_
        refine mg_lcmp (pc := 22) hC dX3_angle_22 ?_
        refine mg_if_lt (pc := 23) hC 28 dX3_angle_23 (by decide) (fun _ => ?_) (fun _ => ?_)
        · refine mg_aload_n (pc := 28) hC 0 dX3_angle_28 rfl ?_
          refine mg_lload_n (pc := 29) hC 1 dX3_angle_29 rfl ?_
          refine mg_lload_n (pc := 30) hC 2 dX3_angle_30 rfl ?_
          refine mg_recv (ci := 3) (fun hb => ?_)
          refine mg_cAI (pc := 31) (fun r hr => mg_VR (rest := []) (av := [.long x1, .long x3]) (ci := 3) hC wdX3_keep mw_41 dX3_angle_31 rfl rfl ⟨Nat.le_of_ble_eq_true rfl, Nat.le_of_ble_eq_true rfl⟩ (Nat.le_of_ble_eq_true rfl) hb (kX3_keep hr)) (fun v1 w2 kc3 ks4 _ => ?_)
          exact mg_iret (pc := 34) hC rfl dX3_angle_34
        · refine mg_iconst (pc := 26) hC (-1 : Int32) dX3_angle_26 (by decide) ?_
          exact mg_iret (pc := 27) hC rfl dX3_angle_27
theorem wdX3_angle : mg_WdV 3 yX3_angle cX3_angle 5 (some .int) 2 := ⟨⟨mw_39, mw_1, by decide, by decide, by decide +kernel⟩, _, rfl, mw_37, mw_38⟩
def fX3_drop (x0 : Nat) (w : mg_H) : Option (Int32 × mg_H) := (mg_gI w 3 x0 3).bind fun v1 => if v1 = 0 then (some ((-4 : Int32), w)) else ((mg_gI w 3 x0 3).bind fun v2 => (mg_pI w 3 x0 3 (v2 - (1 : Int32))).bind fun w3 => (mg_gI w3 3 x0 3).bind fun v4 => some (v4, w3))
set_option maxHeartbeats 4000000 in
set_option maxRecDepth 100000 in
theorem kX3_drop {E : mg_P} {l : Launch} {x0 : Nat} {w : mg_H} {sz : Nat} {o : Int32 × mg_H} (hf : fX3_drop x0 w = some o) : mg_C E l yX3_drop cX3_drop 1 (some .int) 0 0 [.ref x0] w sz ((mg_oS mg_vI) o) := by
  refine mg_meth (out := (mg_oS mg_vI)) (by decide) (Nat.le_of_ble_eq_true rfl) hf ?_
  intro p e C S s m below meth c hC hin
  have hC : mg_Cx E p s m _ meth c cX3_drop 1 (some .int) RX3 := hC
  unfold fX3_drop
  refine mg_sub (pc := 0) [0] (L' := [(0, .ref x0)]) rfl ?_
  refine mg_aload_n (pc := 0) hC 0 dX3_drop_0 rfl ?_
  refine mg_getI (pc := 1) (ci := 3) (k := 3) hC mi_3 rfl (by decide) mw_22 dX3_drop_1 (fun v1 _ => ?_)
  refine mg_if_ne (pc := 4) hC 10 dX3_drop_4 (by decide) (fun _ => ?_) (fun _ => ?_)
  · refine mg_bipush (pc := 7) hC (-4 : Int32) dX3_drop_7 (by decide) ?_
    exact mg_iret (pc := 9) hC rfl dX3_drop_9
  · refine mg_aload_n (pc := 10) hC 0 dX3_drop_10 rfl ?_
    refine mg_dup (pc := 11) hC dX3_drop_11 rfl ?_
    refine mg_getI (pc := 12) (ci := 3) (k := 3) hC mi_3 rfl (by decide) mw_22 dX3_drop_12 (fun v2 _ => ?_)
    refine mg_iconst (pc := 15) hC (1 : Int32) dX3_drop_15 (by decide) ?_
    refine mg_isub (pc := 16) hC dX3_drop_16 ?_
    refine mg_putI (pc := 17) (ci := 3) (k := 3) hC mi_3 rfl (by decide) tyX3 tyX3_ok nmX3 mw_22 dX3_drop_17 (Or.inl rfl) rfl (fun w3 _ => ?_)
    refine mg_aload_n (pc := 20) hC 0 dX3_drop_20 rfl ?_
    refine mg_getI (pc := 21) (ci := 3) (k := 3) hC mi_3 rfl (by decide) mw_22 dX3_drop_21 (fun v4 _ => ?_)
    exact mg_iret (pc := 24) hC rfl dX3_drop_24
theorem wdX3_drop : mg_WdV 3 yX3_drop cX3_drop 1 (some .int) 0 := ⟨⟨mw_91, mw_1, by decide, by decide, by decide +kernel⟩, _, rfl, mw_89, mw_90⟩
def fX3_turnAt (x0 : Nat) (x1 : Int32) (w : mg_H) : Option (Option Nat) := if x1 < 0 then (some none) else ((mg_gI w 3 x0 3).bind fun v1 => if v1 ≤ x1 then (some none) else (mg_gN w 3 x0 0 fun v2 => (mg_ldQ w 3 v2 x1).bind fun v3 => some v3))
set_option maxHeartbeats 4000000 in
set_option maxRecDepth 100000 in
theorem kX3_turnAt {E : mg_P} {l : Launch} {x0 : Nat} {x1 : Int32} {w : mg_H} {sz : Nat} {o : Option Nat} (hf : fX3_turnAt x0 x1 w = some o) : mg_C E l yX3_turnAt cX3_turnAt 2 (some (.object "MetAngles$Turn")) 0 0 [.ref x0, .int x1] w sz ((mg_oR mg_vQ w) o) := by
  refine mg_meth (out := (mg_oR mg_vQ w)) (by decide) (Nat.le_of_ble_eq_true rfl) hf ?_
  intro p e C S s m below meth c hC hin
  have hC : mg_Cx E p s m _ meth c cX3_turnAt 2 (some (.object "MetAngles$Turn")) RX3 := hC
  unfold fX3_turnAt
  refine mg_sub (pc := 0) [0, 1] (L' := [(0, .ref x0), (1, .int x1)]) rfl ?_
  refine mg_iload_n (pc := 0) hC 1 dX3_turnAt_0 rfl ?_
  refine mg_if_lt (pc := 1) hC 21 dX3_turnAt_1 (by decide) (fun _ => ?_) (fun _ => ?_)
  · refine mg_null (pc := 21) hC dX3_turnAt_21 ?_
    exact mg_aret (pc := 22) (r := none) hC rfl dX3_turnAt_22
  · refine mg_iload_n (pc := 4) hC 1 dX3_turnAt_4 rfl ?_
    refine mg_aload_n (pc := 5) hC 0 dX3_turnAt_5 rfl ?_
    refine mg_getI (pc := 6) (ci := 3) (k := 3) hC mi_3 rfl (by decide) mw_22 dX3_turnAt_6 (fun v1 _ => ?_)
    refine mg_icmp_ge (pc := 9) hC 21 dX3_turnAt_9 (by decide) (fun _ => ?_) (fun _ => ?_)
    · refine mg_null (pc := 21) hC dX3_turnAt_21 ?_
      exact mg_aret (pc := 22) (r := none) hC rfl dX3_turnAt_22
    · refine mg_aload_n (pc := 12) hC 0 dX3_turnAt_12 rfl ?_
      refine mg_getNN (pc := 13) (ci := 3) (k := 0) hC mi_3 rfl (by decide) mw_19 dX3_turnAt_13 (fun v2 _ => ?_)
      refine mg_iload_n (pc := 16) hC 1 dX3_turnAt_16 rfl ?_
      refine mg_aald3 (pc := 17) hC dX3_turnAt_17 (fun v3 _ => ?_)
      refine mg_goto (pc := 18) hC 22 dX3_turnAt_18 (by decide) ?_
      exact mg_aret (pc := 22) (r := v3) hC rfl dX3_turnAt_22
theorem wdX3_turnAt : mg_WdV 3 yX3_turnAt cX3_turnAt 2 (some (.object "MetAngles$Turn")) 1 := ⟨⟨mw_99, mw_1, by decide, by decide, by decide +kernel⟩, _, rfl, mw_98, mw_p1⟩
def fX3_told (x0 : Nat) (x1 : Int32) (x2 : Int32) (w : mg_H) : Option (Int32) := mg_rc w 3 x0 ((fX3_turnAt x0 x1 w).bind fun v1 => mg_if0 v1 (some (-1 : Int32)) (fun a2 => if x2 = (0 : Int32) then ((mg_gI w 2 a2 0).bind fun v3 => some v3) else (if x2 = (1 : Int32) then ((mg_gI w 2 a2 1).bind fun v4 => some v4) else (if x2 = (2 : Int32) then ((mg_gI w 2 a2 2).bind fun v5 => some v5) else (if x2 = (3 : Int32) then ((mg_gI w 2 a2 3).bind fun v6 => some v6) else (some (-1 : Int32)))))))
set_option maxHeartbeats 4000000 in
set_option maxRecDepth 100000 in
theorem kX3_told {E : mg_P} {l : Launch} {x0 : Nat} {x1 : Int32} {x2 : Int32} {w : mg_H} {sz : Nat} {o : Int32} (hf : fX3_told x0 x1 x2 w = some o) : mg_C E l yX3_told cX3_told 4 (some .int) 1 21 [.ref x0, .int x1, .int x2] w sz ((mg_oR mg_vI w) o) := by
  refine mg_meth (out := (mg_oR mg_vI w)) (by decide) (Nat.le_of_ble_eq_true rfl) hf ?_
  intro p e C S s m below meth c hC hin
  have hC : mg_Cx E p s m _ meth c cX3_told 4 (some .int) RX3 := hC
  unfold fX3_told
  refine mg_sub (pc := 0) [0, 1, 2] (L' := [(0, .ref x0), (1, .int x1), (2, .int x2)]) rfl ?_
  refine mg_aload_n (pc := 0) hC 0 dX3_told_0 rfl ?_
  refine mg_iload_n (pc := 1) hC 1 dX3_told_1 rfl ?_
  refine mg_recv (ci := 3) (fun hb => ?_)
  refine mg_cRQ (pc := 2) (fun r hr => mg_VR (rest := []) (av := [.int x1]) (ci := 3) hC wdX3_turnAt mw_96 dX3_told_2 rfl rfl ⟨Nat.le_of_ble_eq_true rfl, Nat.le_of_ble_eq_true rfl⟩ (Nat.le_of_ble_eq_true rfl) hb (kX3_turnAt hr)) (fun v1 _ => ?_)
  refine mg_astore_nQ (pc := 5) hC [(3, va_rf v1), (0, .ref x0), (1, .int x1), (2, .int x2)] dX3_told_5 (by decide) rfl ?_
  refine mg_aload_nQ (pc := 6) hC 0 dX3_told_6 rfl ?_
  refine mg_ifnonnull (pc := 7) hC 12 dX3_told_7 (by decide) (fun hq => ?_) (fun a2 hq => ?_)
  · subst hq
    refine mg_iconst (pc := 10) hC (-1 : Int32) dX3_told_10 (by decide) ?_
    exact mg_iret (pc := 11) hC rfl dX3_told_11
  · subst hq
    refine mg_iload_n (pc := 12) hC 3 dX3_told_12 rfl ?_
    refine mg_ite (cd := x2 = (0 : Int32)) (fun hq => ?_) (fun h0 => ?_)
    · subst hq
      refine mg_tswC (pc := 13) hC 44 dX3_told_13 (by decide) (by decide) rfl (by decide) ?_
      refine mg_aload_n (pc := 44) hC 0 dX3_told_44 rfl ?_
      refine mg_getI (pc := 45) (ci := 2) (k := 0) hC mi_2 rfl (by decide) mw_70 dX3_told_45 (fun v3 _ => ?_)
      exact mg_iret (pc := 48) hC rfl dX3_told_48
    · skip
      refine mg_ite (cd := x2 = (1 : Int32)) (fun hq => ?_) (fun h1 => ?_)
      · subst hq
        refine mg_tswC (pc := 13) hC 49 dX3_told_13 (by decide) (by decide) rfl (by decide) ?_
        refine mg_aload_n (pc := 49) hC 0 dX3_told_49 rfl ?_
        refine mg_getI (pc := 50) (ci := 2) (k := 1) hC mi_2 rfl (by decide) mw_73 dX3_told_50 (fun v4 _ => ?_)
        exact mg_iret (pc := 53) hC rfl dX3_told_53
      · skip
        refine mg_ite (cd := x2 = (2 : Int32)) (fun hq => ?_) (fun h2 => ?_)
        · subst hq
          refine mg_tswC (pc := 13) hC 54 dX3_told_13 (by decide) (by decide) rfl (by decide) ?_
          refine mg_aload_n (pc := 54) hC 0 dX3_told_54 rfl ?_
          refine mg_getI (pc := 55) (ci := 2) (k := 2) hC mi_2 rfl (by decide) mw_76 dX3_told_55 (fun v5 _ => ?_)
          exact mg_iret (pc := 58) hC rfl dX3_told_58
        · skip
          refine mg_ite (cd := x2 = (3 : Int32)) (fun hq => ?_) (fun h3 => ?_)
          · subst hq
            refine mg_tswC (pc := 13) hC 59 dX3_told_13 (by decide) (by decide) rfl (by decide) ?_
            refine mg_aload_n (pc := 59) hC 0 dX3_told_59 rfl ?_
            refine mg_getI (pc := 60) (ci := 2) (k := 3) hC mi_2 rfl (by decide) mw_78 dX3_told_60 (fun v6 _ => ?_)
            exact mg_iret (pc := 63) hC rfl dX3_told_63
          · skip
            refine mg_tswD (pc := 13) hC 64 dX3_told_13 (mg_sw3 h0 h1 h2 h3) (by decide) ?_
            refine mg_iconst (pc := 64) hC (-1 : Int32) dX3_told_64 (by decide) ?_
            exact mg_iret (pc := 65) hC rfl dX3_told_65
theorem wdX3_told : mg_WdV 3 yX3_told cX3_told 4 (some .int) 2 := ⟨⟨mw_95, mw_1, by decide, by decide, by decide +kernel⟩, _, rfl, mw_93, mw_94⟩
def fX3_isDoublings (x0 : Int32) : Option (Int32) := if x0 < 0 then (some (0 : Int32)) else (if (100 : Int32) < x0 then (some (0 : Int32)) else (some (1 : Int32)))
set_option maxHeartbeats 4000000 in
set_option maxRecDepth 100000 in
theorem kX3_isDoublings {E : mg_P} {l : Launch} {x0 : Int32} {w : mg_H} {sz : Nat} {o : Int32} (hf : fX3_isDoublings x0 = some o) : mg_C E l yX3_isDoublings cX3_isDoublings 1 (some .boolean) 0 0 [.int x0] w sz ((mg_oR mg_vI w) o) := by
  refine mg_meth (out := (mg_oR mg_vI w)) (by decide) (Nat.le_of_ble_eq_true rfl) hf ?_
  intro p e C S s m below meth c hC hin
  have hC : mg_Cx E p s m _ meth c cX3_isDoublings 1 (some .boolean) RX3 := hC
  unfold fX3_isDoublings
  refine mg_sub (pc := 0) [0] (L' := [(0, .int x0)]) rfl ?_
  refine mg_iload_n (pc := 0) hC 0 dX3_isDoublings_0 rfl ?_
  refine mg_if_lt (pc := 1) hC 14 dX3_isDoublings_1 (by decide) (fun _ => ?_) (fun _ => ?_)
  · refine mg_iconst (pc := 14) hC (0 : Int32) dX3_isDoublings_14 (by decide) ?_
    exact mg_zretC (pc := 15) hC (by decide) rfl dX3_isDoublings_15
  · refine mg_iload_n (pc := 4) hC 0 dX3_isDoublings_4 rfl ?_
    refine mg_bipush (pc := 5) hC (100 : Int32) dX3_isDoublings_5 (by decide) ?_
    refine mg_icmp_gt (pc := 7) hC 14 dX3_isDoublings_7 (by decide) (fun _ => ?_) (fun _ => ?_)
    · refine mg_iconst (pc := 14) hC (0 : Int32) dX3_isDoublings_14 (by decide) ?_
      exact mg_zretC (pc := 15) hC (by decide) rfl dX3_isDoublings_15
    · refine mg_iconst (pc := 10) hC (1 : Int32) dX3_isDoublings_10 (by decide) ?_
      refine mg_goto (pc := 11) hC 15 dX3_isDoublings_11 (by decide) ?_
      exact mg_zretC (pc := 15) hC (by decide) rfl dX3_isDoublings_15
theorem wdX3_isDoublings : mg_Wd yX3_isDoublings cX3_isDoublings 1 (some .boolean) 1 := ⟨mw_106, mw_1, by decide, by decide, by decide +kernel⟩
def fX3_isEither (x0 : Int32) : Option (Int32) := if x0 = 0 then (some (1 : Int32)) else (if x0 = (1 : Int32) then (some (1 : Int32)) else (some (0 : Int32)))
set_option maxHeartbeats 4000000 in
set_option maxRecDepth 100000 in
theorem kX3_isEither {E : mg_P} {l : Launch} {x0 : Int32} {w : mg_H} {sz : Nat} {o : Int32} (hf : fX3_isEither x0 = some o) : mg_C E l yX3_isEither cX3_isEither 1 (some .boolean) 0 0 [.int x0] w sz ((mg_oR mg_vI w) o) := by
  refine mg_meth (out := (mg_oR mg_vI w)) (by decide) (Nat.le_of_ble_eq_true rfl) hf ?_
  intro p e C S s m below meth c hC hin
  have hC : mg_Cx E p s m _ meth c cX3_isEither 1 (some .boolean) RX3 := hC
  unfold fX3_isEither
  refine mg_sub (pc := 0) [0] (L' := [(0, .int x0)]) rfl ?_
  refine mg_iload_n (pc := 0) hC 0 dX3_isEither_0 rfl ?_
  refine mg_if_eq (pc := 1) hC 9 dX3_isEither_1 (by decide) (fun _ => ?_) (fun _ => ?_)
  · refine mg_iconst (pc := 9) hC (1 : Int32) dX3_isEither_9 (by decide) ?_
    refine mg_goto (pc := 10) hC 14 dX3_isEither_10 (by decide) ?_
    exact mg_zretC (pc := 14) hC (by decide) rfl dX3_isEither_14
  · refine mg_iload_n (pc := 4) hC 0 dX3_isEither_4 rfl ?_
    refine mg_iconst (pc := 5) hC (1 : Int32) dX3_isEither_5 (by decide) ?_
    refine mg_icmp_ne (pc := 6) hC 13 dX3_isEither_6 (by decide) (fun _ => ?_) (fun _ => ?_)
    · refine mg_iconst (pc := 9) hC (1 : Int32) dX3_isEither_9 (by decide) ?_
      refine mg_goto (pc := 10) hC 14 dX3_isEither_10 (by decide) ?_
      exact mg_zretC (pc := 14) hC (by decide) rfl dX3_isEither_14
    · refine mg_iconst (pc := 13) hC (0 : Int32) dX3_isEither_13 (by decide) ?_
      exact mg_zretC (pc := 14) hC (by decide) rfl dX3_isEither_14
theorem wdX3_isEither : mg_Wd yX3_isEither cX3_isEither 1 (some .boolean) 1 := ⟨mw_109, mw_1, by decide, by decide, by decide +kernel⟩
def fX3_doubled_b66 (w : mg_H) (x6 : Int64) (s0 : Int64) : Option (Int32) := (fX3_over s0 x6).bind fun v1 => some (v1.toInt32)
set_option maxHeartbeats 4000000 in
set_option maxRecDepth 100000 in
theorem gX3_doubled_b66 (hC : mg_Cx E p s m args meth c cX3_doubled 8 (some .int) RX3) (w : mg_H) (sz : Nat) (x6 : Int64) (s0 : Int64) (cells slots : Nat) : mg_G E p l e ({ frames := 2, cells := C, slots := S, locals := 45 } : Room) s m args below meth c 8 (mg_oR mg_vI w) (fX3_doubled_b66 w x6 s0) w sz cells slots 66 [(6, .long x6)] [.long s0] := by
  unfold fX3_doubled_b66
  refine mg_lload (pc := 66) hC 0 dX3_doubled_66 rfl ?_
  refine mg_cRL (pc := 68) (fun r hr => mg_S (rest := []) hC wdX3_over mw_54 mw_112 dX3_doubled_68 rfl rfl ⟨Nat.le_of_ble_eq_true rfl, Nat.le_of_ble_eq_true rfl⟩ (Nat.le_of_ble_eq_true rfl) (kX3_over hr)) (fun v1 _ => ?_)
  refine mg_l2i (pc := 71) hC dX3_doubled_71 ?_
  exact mg_iret (pc := 72) hC rfl dX3_doubled_72
def fX3_doubled (x0 : Nat) (x1 : Int32) (x2 : Int32) (x3 : Int32) (w : mg_H) : Option (Int32) := mg_rc w 3 x0 ((fX3_turnAt x0 x1 w).bind fun v1 => mg_if0 v1 (some (-1 : Int32)) (fun a2 => (fX3_isDoublings x2).bind fun v3 => if v3 = 0 then (some (-1 : Int32)) else ((fX3_isEither x3).bind fun v4 => if v4 = 0 then (some (-1 : Int32)) else (mg_rc w 2 a2 ((fX2_upAfter a2 x2 w).bind fun v5 => (mg_gI w 2 a2 1).bind fun v6 => (fX3_greatestShared (v5.toInt64) (v6.toInt64)).bind fun v7 => if x3 = 0 then (fX3_doubled_b66 w v7 (v5.toInt64)) else ((mg_gI w 2 a2 1).bind fun v8 => fX3_doubled_b66 w v7 (v8.toInt64)))))))
set_option maxHeartbeats 4000000 in
set_option maxRecDepth 100000 in
theorem kX3_doubled {E : mg_P} {l : Launch} {x0 : Nat} {x1 : Int32} {x2 : Int32} {x3 : Int32} {w : mg_H} {sz : Nat} {o : Int32} (hf : fX3_doubled x0 x1 x2 x3 w = some o) : mg_C E l yX3_doubled cX3_doubled 8 (some .int) 2 45 [.ref x0, .int x1, .int x2, .int x3] w sz ((mg_oR mg_vI w) o) := by
  refine mg_meth (out := (mg_oR mg_vI w)) (by decide) (Nat.le_of_ble_eq_true rfl) hf ?_
  intro p e C S s m below meth c hC hin
  have hC : mg_Cx E p s m _ meth c cX3_doubled 8 (some .int) RX3 := hC
  unfold fX3_doubled
  refine mg_sub (pc := 0) [0, 1, 2, 3] (L' := [(0, .ref x0), (1, .int x1), (2, .int x2), (3, .int x3)]) rfl ?_
  refine mg_aload_n (pc := 0) hC 0 dX3_doubled_0 rfl ?_
  refine mg_iload_n (pc := 1) hC 1 dX3_doubled_1 rfl ?_
  refine mg_recv (ci := 3) (fun hb => ?_)
  refine mg_cRQ (pc := 2) (fun r hr => mg_VR (rest := []) (av := [.int x1]) (ci := 3) hC wdX3_turnAt mw_96 dX3_doubled_2 rfl rfl ⟨Nat.le_of_ble_eq_true rfl, Nat.le_of_ble_eq_true rfl⟩ (Nat.le_of_ble_eq_true rfl) hb (kX3_turnAt hr)) (fun v1 _ => ?_)
  refine mg_astoreQ (pc := 5) hC [(4, va_rf v1), (0, .ref x0), (1, .int x1), (2, .int x2), (3, .int x3)] dX3_doubled_5 (by decide) rfl ?_
  refine mg_aloadQ (pc := 7) hC 0 dX3_doubled_7 rfl ?_
  refine mg_ifnull (pc := 9) hC 26 dX3_doubled_9 (by decide) (fun hq => ?_) (fun a2 hq => ?_)
  · subst hq
    refine mg_iconst (pc := 26) hC (-1 : Int32) dX3_doubled_26 (by decide) ?_
    exact mg_iret (pc := 27) hC rfl dX3_doubled_27
  · subst hq
    refine mg_iload_n (pc := 12) hC 3 dX3_doubled_12 rfl ?_
    refine mg_cRI (pc := 13) (fun r hr => mg_S (rest := []) hC wdX3_isDoublings mw_105 mw_104 dX3_doubled_13 rfl rfl ⟨Nat.le_of_ble_eq_true rfl, Nat.le_of_ble_eq_true rfl⟩ (Nat.le_of_ble_eq_true rfl) (kX3_isDoublings hr)) (fun v3 _ => ?_)
    refine mg_if_eq (pc := 16) hC 26 dX3_doubled_16 (by decide) (fun _ => ?_) (fun _ => ?_)
    · refine mg_iconst (pc := 26) hC (-1 : Int32) dX3_doubled_26 (by decide) ?_
      exact mg_iret (pc := 27) hC rfl dX3_doubled_27
    · refine mg_iload_n (pc := 19) hC 4 dX3_doubled_19 rfl ?_
      refine mg_cRI (pc := 20) (fun r hr => mg_S (rest := []) hC wdX3_isEither mw_108 mw_107 dX3_doubled_20 rfl rfl ⟨Nat.le_of_ble_eq_true rfl, Nat.le_of_ble_eq_true rfl⟩ (Nat.le_of_ble_eq_true rfl) (kX3_isEither hr)) (fun v4 _ => ?_)
      refine mg_if_ne (pc := 23) hC 28 dX3_doubled_23 (by decide) (fun _ => ?_) (fun _ => ?_)
      · refine mg_iconst (pc := 26) hC (-1 : Int32) dX3_doubled_26 (by decide) ?_
        exact mg_iret (pc := 27) hC rfl dX3_doubled_27
      · refine mg_aload (pc := 28) hC 0 dX3_doubled_28 rfl ?_
        refine mg_iload_n (pc := 30) hC 3 dX3_doubled_30 rfl ?_
        refine mg_recv (ci := 2) (fun hb => ?_)
        refine mg_cRI (pc := 31) (fun r hr => mg_VR (rest := []) (av := [.int x2]) (ci := 2) hC wdX2_upAfter mw_110 dX3_doubled_31 rfl rfl ⟨Nat.le_of_ble_eq_true rfl, Nat.le_of_ble_eq_true rfl⟩ (Nat.le_of_ble_eq_true rfl) hb (kX2_upAfter hr)) (fun v5 _ => ?_)
        refine mg_istore (pc := 34) hC [(5, .int v5), (4, .ref a2), (0, .ref x0), (1, .int x1), (2, .int x2), (3, .int x3)] dX3_doubled_34 (by decide) rfl ?_
        refine mg_iload (pc := 36) hC 0 dX3_doubled_36 rfl ?_
        refine mg_i2l (pc := 38) hC dX3_doubled_38 ?_
        refine mg_aload (pc := 39) hC 1 dX3_doubled_39 rfl ?_
        refine mg_getI (pc := 41) (ci := 2) (k := 1) hC mi_2 rfl (by decide) mw_73 dX3_doubled_41 (fun v6 _ => ?_)
        refine mg_i2l (pc := 44) hC dX3_doubled_44 ?_
        refine mg_cRL (pc := 45) (fun r hr => mg_S (rest := []) hC wdX3_greatestShared mw_51 mw_111 dX3_doubled_45 rfl rfl ⟨Nat.le_of_ble_eq_true rfl, Nat.le_of_ble_eq_true rfl⟩ (Nat.le_of_ble_eq_true rfl) (kX3_greatestShared hr)) (fun v7 _ => ?_)
        refine mg_lstore (pc := 48) hC [(6, .long v7), (5, .int v5), (4, .ref a2), (0, .ref x0), (1, .int x1), (2, .int x2), (3, .int x3)] dX3_doubled_48 (by decide) rfl ?_
        refine mg_iload_n (pc := 50) hC 6 dX3_doubled_50 rfl ?_
        refine mg_if_ne (pc := 51) hC 60 dX3_doubled_51 (by decide) (fun _ => ?_) (fun _ => ?_)
        · refine mg_iload (pc := 54) hC 1 dX3_doubled_54 rfl ?_
          refine mg_i2l (pc := 56) hC dX3_doubled_56 ?_
          refine mg_goto (pc := 57) hC 66 dX3_doubled_57 (by decide) ?_
          exact mg_sub (pc := 66) [0] (L' := [(6, .long v7)]) rfl (gX3_doubled_b66 hC _ _  _ _ _ _)
        · refine mg_aload (pc := 60) hC 2 dX3_doubled_60 rfl ?_
          refine mg_getI (pc := 62) (ci := 2) (k := 1) hC mi_2 rfl (by decide) mw_73 dX3_doubled_62 (fun v8 _ => ?_)
          refine mg_i2l (pc := 65) hC dX3_doubled_65 ?_
          exact mg_sub (pc := 66) [0] (L' := [(6, .long v7)]) rfl (gX3_doubled_b66 hC _ _  _ _ _ _)
theorem wdX3_doubled : mg_WdV 3 yX3_doubled cX3_doubled 8 (some .int) 3 := ⟨⟨mw_103, mw_1, by decide, by decide, by decide +kernel⟩, _, rfl, mw_101, mw_102⟩
def fX3_isLength (x0 : Int32) : Option (Int32) := if x0 < (1 : Int32) then (some (0 : Int32)) else (if (20 : Int32) < x0 then (some (0 : Int32)) else (some (1 : Int32)))
set_option maxHeartbeats 4000000 in
set_option maxRecDepth 100000 in
theorem kX3_isLength {E : mg_P} {l : Launch} {x0 : Int32} {w : mg_H} {sz : Nat} {o : Int32} (hf : fX3_isLength x0 = some o) : mg_C E l yX3_isLength cX3_isLength 1 (some .boolean) 0 0 [.int x0] w sz ((mg_oR mg_vI w) o) := by
  refine mg_meth (out := (mg_oR mg_vI w)) (by decide) (Nat.le_of_ble_eq_true rfl) hf ?_
  intro p e C S s m below meth c hC hin
  have hC : mg_Cx E p s m _ meth c cX3_isLength 1 (some .boolean) RX3 := hC
  unfold fX3_isLength
  refine mg_sub (pc := 0) [0] (L' := [(0, .int x0)]) rfl ?_
  refine mg_iload_n (pc := 0) hC 0 dX3_isLength_0 rfl ?_
  refine mg_iconst (pc := 1) hC (1 : Int32) dX3_isLength_1 (by decide) ?_
  refine mg_icmp_lt (pc := 2) hC 15 dX3_isLength_2 (by decide) (fun _ => ?_) (fun _ => ?_)
  · refine mg_iconst (pc := 15) hC (0 : Int32) dX3_isLength_15 (by decide) ?_
    exact mg_zretC (pc := 16) hC (by decide) rfl dX3_isLength_16
  · refine mg_iload_n (pc := 5) hC 0 dX3_isLength_5 rfl ?_
    refine mg_bipush (pc := 6) hC (20 : Int32) dX3_isLength_6 (by decide) ?_
    refine mg_icmp_gt (pc := 8) hC 15 dX3_isLength_8 (by decide) (fun _ => ?_) (fun _ => ?_)
    · refine mg_iconst (pc := 15) hC (0 : Int32) dX3_isLength_15 (by decide) ?_
      exact mg_zretC (pc := 16) hC (by decide) rfl dX3_isLength_16
    · refine mg_iconst (pc := 11) hC (1 : Int32) dX3_isLength_11 (by decide) ?_
      refine mg_goto (pc := 12) hC 16 dX3_isLength_12 (by decide) ?_
      exact mg_zretC (pc := 16) hC (by decide) rfl dX3_isLength_16
theorem wdX3_isLength : mg_Wd yX3_isLength cX3_isLength 1 (some .boolean) 1 := ⟨mw_119, mw_1, by decide, by decide, by decide +kernel⟩
def fX3_justOfLength_b38 (r2 : Nat → Int32 → Int32 → mg_H → Option (Int32 × mg_H)) (x0 : Nat) (x1 : Int32) (x2 : Int32) (w : mg_H) : Option (Int32 × mg_H) := r2 x0 x1 (x2 + (1 : Int32)) w
set_option maxHeartbeats 4000000 in
set_option maxRecDepth 100000 in
theorem gX3_justOfLength_b38 (hC : mg_Cx E p s m args meth c cX3_justOfLength 4 (some .int) RX3) (sz : Nat) (r2 : Nat → Int32 → Int32 → mg_H → Option (Int32 × mg_H)) (hr2 : ∀ (z0 : Nat) (z1 : Int32) (z2 : Int32) (w : mg_H) (cells slots : Nat), mg_G E p l e ({ frames := 0, cells := C, slots := S, locals := 0 } : Room) s m args below meth c 4 (mg_oS mg_vI) (r2 z0 z1 z2 w) w sz cells slots 2 [(0, .ref z0), (1, .int z1), (2, .int z2)] []) (x0 : Nat) (x1 : Int32) (x2 : Int32) (w : mg_H) (cells slots : Nat) : mg_G E p l e ({ frames := 0, cells := C, slots := S, locals := 0 } : Room) s m args below meth c 4 (mg_oS mg_vI) (fX3_justOfLength_b38 r2 x0 x1 x2 w) w sz cells slots 38 [(0, .ref x0), (1, .int x1), (2, .int x2)] [] := by
  unfold fX3_justOfLength_b38
  refine mg_iinc (pc := 38) hC 2 (x2 + (1 : Int32)) [(2, .int (x2 + (1 : Int32))), (0, .ref x0), (1, .int x1)] dX3_justOfLength_38 rfl rfl (by decide) rfl ?_
  refine mg_goto (pc := 41) hC 2 dX3_justOfLength_41 (by decide) ?_
  exact mg_sub (pc := 2) [1, 2, 0] (L' := [(0, .ref x0), (1, .int x1), (2, .int (x2 + (1 : Int32)))]) rfl (hr2 _ _ _ _ _ _)
def fX3_justOfLength_b11 (r2 : Nat → Int32 → Int32 → mg_H → Option (Int32 × mg_H)) : Nat → Nat → Int32 → Int32 → Int32 → mg_H → Option (Int32 × mg_H)
  | 0, _, _, _, _, _ => none
  | n + 1, x0, x1, x2, x3, w => if x1 < x3 then (fX3_justOfLength_b38 r2 x0 x1 x2 w) else (mg_gN w 3 x0 2 fun v1 => (mg_ldI w 0 v1 x3).bind fun v2 => mg_gN w 3 x0 2 fun v3 => (mg_ldI w 0 v3 x2).bind fun v4 => (mg_stI w v1 x3 (v2 - v4)).bind fun w5 => fX3_justOfLength_b11 r2 n x0 x1 x2 (x3 + x2) w5)
set_option maxHeartbeats 4000000 in
set_option maxRecDepth 100000 in
theorem gX3_justOfLength_b11 (hC : mg_Cx E p s m args meth c cX3_justOfLength 4 (some .int) RX3) (sz : Nat) (r2 : Nat → Int32 → Int32 → mg_H → Option (Int32 × mg_H)) (hr2 : ∀ (z0 : Nat) (z1 : Int32) (z2 : Int32) (w : mg_H) (cells slots : Nat), mg_G E p l e ({ frames := 0, cells := C, slots := S, locals := 0 } : Room) s m args below meth c 4 (mg_oS mg_vI) (r2 z0 z1 z2 w) w sz cells slots 2 [(0, .ref z0), (1, .int z1), (2, .int z2)] []) : ∀ (n : Nat) (x0 : Nat) (x1 : Int32) (x2 : Int32) (x3 : Int32) (w : mg_H) (cells slots : Nat), mg_G E p l e ({ frames := 0, cells := C, slots := S, locals := 0 } : Room) s m args below meth c 4 (mg_oS mg_vI) (fX3_justOfLength_b11 r2 n x0 x1 x2 x3 w) w sz cells slots 11 [(0, .ref x0), (1, .int x1), (2, .int x2), (3, .int x3)] [] := by
  intro n
  induction n with
  | zero => intros; exact fun o hf => by rw [fX3_justOfLength_b11] at hf; cases hf
  | succ n ih =>
    intro x0 x1 x2 x3 w cells slots
    rw [fX3_justOfLength_b11]
    refine mg_iload_n (pc := 11) hC 3 dX3_justOfLength_11 rfl ?_
    refine mg_iload_n (pc := 12) hC 1 dX3_justOfLength_12 rfl ?_
    refine mg_icmp_gt (pc := 13) hC 38 dX3_justOfLength_13 (by decide) (fun _ => ?_) (fun _ => ?_)
    · exact mg_sub (pc := 38) [0, 1, 2] (L' := [(0, .ref x0), (1, .int x1), (2, .int x2)]) rfl (gX3_justOfLength_b38 hC _ _ hr2 _ _ _ _ _ _)
    · refine mg_aload_n (pc := 16) hC 0 dX3_justOfLength_16 rfl ?_
      refine mg_getNN (pc := 17) (ci := 3) (k := 2) hC mi_3 rfl (by decide) mw_21 dX3_justOfLength_17 (fun v1 _ => ?_)
      refine mg_iload_n (pc := 20) hC 3 dX3_justOfLength_20 rfl ?_
      refine mg_dup2_11 (pc := 21) hC dX3_justOfLength_21 rfl rfl ?_
      refine mg_iald (pc := 22) hC dX3_justOfLength_22 (fun v2 _ => ?_)
      refine mg_aload_n (pc := 23) hC 0 dX3_justOfLength_23 rfl ?_
      refine mg_getNN (pc := 24) (ci := 3) (k := 2) hC mi_3 rfl (by decide) mw_21 dX3_justOfLength_24 (fun v3 _ => ?_)
      refine mg_iload_n (pc := 27) hC 2 dX3_justOfLength_27 rfl ?_
      refine mg_iald (pc := 28) hC dX3_justOfLength_28 (fun v4 _ => ?_)
      refine mg_isub (pc := 29) hC dX3_justOfLength_29 ?_
      refine mg_iast (pc := 30) hC dX3_justOfLength_30 (fun w5 _ => ?_)
      refine mg_iload_n (pc := 31) hC 3 dX3_justOfLength_31 rfl ?_
      refine mg_iload_n (pc := 32) hC 2 dX3_justOfLength_32 rfl ?_
      refine mg_iadd (pc := 33) hC dX3_justOfLength_33 ?_
      refine mg_istore_n (pc := 34) hC [(3, .int (x3 + x2)), (0, .ref x0), (1, .int x1), (2, .int x2)] dX3_justOfLength_34 (by decide) rfl ?_
      refine mg_goto (pc := 35) hC 11 dX3_justOfLength_35 (by decide) ?_
      exact mg_sub (pc := 11) [1, 2, 3, 0] (L' := [(0, .ref x0), (1, .int x1), (2, .int x2), (3, .int (x3 + x2))]) rfl (ih _ _ _ _ _ _ _)
def fX3_justOfLength_b2 : Nat → Nat → Int32 → Int32 → mg_H → Option (Int32 × mg_H)
  | 0, _, _, _, _ => none
  | n + 1, x0, x1, x2, w => if x1 ≤ x2 then (mg_gN w 3 x0 2 fun v1 => (mg_ldI w 0 v1 x1).bind fun v2 => some (v2, w)) else (fX3_justOfLength_b11 (fX3_justOfLength_b2 n) mg_N x0 x1 x2 ((2 : Int32) * x2) w)
set_option maxHeartbeats 4000000 in
set_option maxRecDepth 100000 in
theorem gX3_justOfLength_b2 (hC : mg_Cx E p s m args meth c cX3_justOfLength 4 (some .int) RX3) (sz : Nat) : ∀ (n : Nat) (x0 : Nat) (x1 : Int32) (x2 : Int32) (w : mg_H) (cells slots : Nat), mg_G E p l e ({ frames := 0, cells := C, slots := S, locals := 0 } : Room) s m args below meth c 4 (mg_oS mg_vI) (fX3_justOfLength_b2 n x0 x1 x2 w) w sz cells slots 2 [(0, .ref x0), (1, .int x1), (2, .int x2)] [] := by
  intro n
  induction n with
  | zero => intros; exact fun o hf => by rw [fX3_justOfLength_b2] at hf; cases hf
  | succ n ih =>
    intro x0 x1 x2 w cells slots
    rw [fX3_justOfLength_b2]
    refine mg_iload_n (pc := 2) hC 2 dX3_justOfLength_2 rfl ?_
    refine mg_iload_n (pc := 3) hC 1 dX3_justOfLength_3 rfl ?_
    refine mg_icmp_ge (pc := 4) hC 44 dX3_justOfLength_4 (by decide) (fun _ => ?_) (fun _ => ?_)
    · refine mg_aload_n (pc := 44) hC 0 dX3_justOfLength_44 rfl ?_
      refine mg_getNN (pc := 45) (ci := 3) (k := 2) hC mi_3 rfl (by decide) mw_21 dX3_justOfLength_45 (fun v1 _ => ?_)
      refine mg_iload_n (pc := 48) hC 1 dX3_justOfLength_48 rfl ?_
      refine mg_iald (pc := 49) hC dX3_justOfLength_49 (fun v2 _ => ?_)
      exact mg_iret (pc := 50) hC rfl dX3_justOfLength_50
    · refine mg_iconst (pc := 7) hC (2 : Int32) dX3_justOfLength_7 (by decide) ?_
      refine mg_iload_n (pc := 8) hC 2 dX3_justOfLength_8 rfl ?_
      refine mg_imul (pc := 9) hC dX3_justOfLength_9 ?_
      refine mg_istore_n (pc := 10) hC [(3, .int ((2 : Int32) * x2)), (0, .ref x0), (1, .int x1), (2, .int x2)] dX3_justOfLength_10 (by decide) rfl ?_
      exact mg_sub (pc := 11) [1, 2, 3, 0] (L' := [(0, .ref x0), (1, .int x1), (2, .int x2), (3, .int ((2 : Int32) * x2))]) rfl (gX3_justOfLength_b11 hC _ _ ih _ _ _ _ _ _ _ _)
def fX3_justOfLength (x0 : Nat) (x1 : Int32) (w : mg_H) : Option (Int32 × mg_H) := fX3_justOfLength_b2 mg_N x0 x1 (1 : Int32) w
set_option maxHeartbeats 4000000 in
set_option maxRecDepth 100000 in
theorem kX3_justOfLength {E : mg_P} {l : Launch} {x0 : Nat} {x1 : Int32} {w : mg_H} {sz : Nat} {o : Int32 × mg_H} (hf : fX3_justOfLength x0 x1 w = some o) : mg_C E l yX3_justOfLength cX3_justOfLength 4 (some .int) 0 0 [.ref x0, .int x1] w sz ((mg_oS mg_vI) o) := by
  refine mg_meth (out := (mg_oS mg_vI)) (by decide) (Nat.le_of_ble_eq_true rfl) hf ?_
  intro p e C S s m below meth c hC hin
  have hC : mg_Cx E p s m _ meth c cX3_justOfLength 4 (some .int) RX3 := hC
  unfold fX3_justOfLength
  refine mg_sub (pc := 0) [0, 1] (L' := [(0, .ref x0), (1, .int x1)]) rfl ?_
  refine mg_iconst (pc := 0) hC (1 : Int32) dX3_justOfLength_0 (by decide) ?_
  refine mg_istore_n (pc := 1) hC [(2, .int (1 : Int32)), (0, .ref x0), (1, .int x1)] dX3_justOfLength_1 (by decide) rfl ?_
  exact mg_sub (pc := 2) [1, 2, 0] (L' := [(0, .ref x0), (1, .int x1), (2, .int (1 : Int32))]) rfl (gX3_justOfLength_b2 hC _  _ _ _ _ _ _ _)
theorem wdX3_justOfLength : mg_WdV 3 yX3_justOfLength cX3_justOfLength 4 (some .int) 1 := ⟨⟨mw_126, mw_1, by decide, by decide, by decide +kernel⟩, _, rfl, mw_125, mw_p2⟩
def fX3_all_b32 (x0 : Nat) (x1 : Int32) (w : mg_H) : Option (Int32 × mg_H) := mg_rc w 3 x0 (mg_bS (fX3_justOfLength x0 x1 w) fun v1 w2 => some (v1, w2))
set_option maxHeartbeats 4000000 in
set_option maxRecDepth 100000 in
theorem gX3_all_b32 (hC : mg_Cx E p s m args meth c cX3_all 3 (some .int) RX3) (sz : Nat) (x0 : Nat) (x1 : Int32) (w : mg_H) (cells slots : Nat) : mg_G E p l e ({ frames := 1, cells := C, slots := S, locals := 23 } : Room) s m args below meth c 3 (mg_oS mg_vI) (fX3_all_b32 x0 x1 w) w sz cells slots 32 [(0, .ref x0), (1, .int x1)] [] := by
  unfold fX3_all_b32
  refine mg_aload_n (pc := 32) hC 0 dX3_all_32 rfl ?_
  refine mg_iload_n (pc := 33) hC 1 dX3_all_33 rfl ?_
  refine mg_recv (ci := 3) (fun hb => ?_)
  refine mg_cSI (pc := 34) (fun r hr => mg_VR (rest := []) (av := [.int x1]) (ci := 3) hC wdX3_justOfLength mw_123 dX3_all_34 rfl rfl ⟨Nat.le_of_ble_eq_true rfl, Nat.le_of_ble_eq_true rfl⟩ (Nat.le_of_ble_eq_true rfl) hb (kX3_justOfLength hr)) (fun v1 w2 _ => ?_)
  exact mg_iret (pc := 37) hC rfl dX3_all_37
def fX3_all_b11 : Nat → Nat → Int32 → Int32 → mg_H → Option (Int32 × mg_H)
  | 0, _, _, _, _ => none
  | n + 1, x0, x1, x2, w => if x1 < x2 then (fX3_all_b32 x0 x1 w) else (mg_gN w 3 x0 2 fun v1 => (fX3_ones x2).bind fun v2 => (mg_stI w v1 x2 v2).bind fun w3 => fX3_all_b11 n x0 x1 (x2 + (1 : Int32)) w3)
set_option maxHeartbeats 4000000 in
set_option maxRecDepth 100000 in
theorem gX3_all_b11 (hC : mg_Cx E p s m args meth c cX3_all 3 (some .int) RX3) (sz : Nat) : ∀ (n : Nat) (x0 : Nat) (x1 : Int32) (x2 : Int32) (w : mg_H) (cells slots : Nat), mg_G E p l e ({ frames := 1, cells := C, slots := S, locals := 23 } : Room) s m args below meth c 3 (mg_oS mg_vI) (fX3_all_b11 n x0 x1 x2 w) w sz cells slots 11 [(0, .ref x0), (1, .int x1), (2, .int x2)] [] := by
  intro n
  induction n with
  | zero => intros; exact fun o hf => by rw [fX3_all_b11] at hf; cases hf
  | succ n ih =>
    intro x0 x1 x2 w cells slots
    rw [fX3_all_b11]
    refine mg_iload_n (pc := 11) hC 2 dX3_all_11 rfl ?_
    refine mg_iload_n (pc := 12) hC 1 dX3_all_12 rfl ?_
    refine mg_icmp_gt (pc := 13) hC 32 dX3_all_13 (by decide) (fun _ => ?_) (fun _ => ?_)
    · exact mg_sub (pc := 32) [0, 1] (L' := [(0, .ref x0), (1, .int x1)]) rfl (gX3_all_b32 hC _  _ _ _ _ _)
    · refine mg_aload_n (pc := 16) hC 0 dX3_all_16 rfl ?_
      refine mg_getNN (pc := 17) (ci := 3) (k := 2) hC mi_3 rfl (by decide) mw_21 dX3_all_17 (fun v1 _ => ?_)
      refine mg_iload_n (pc := 20) hC 2 dX3_all_20 rfl ?_
      refine mg_iload_n (pc := 21) hC 2 dX3_all_21 rfl ?_
      refine mg_cRI (pc := 22) (fun r hr => mg_S (rest := [.int x2, .ref v1]) hC wdX3_ones mw_121 mw_120 dX3_all_22 rfl rfl ⟨Nat.le_of_ble_eq_true rfl, Nat.le_of_ble_eq_true rfl⟩ (Nat.le_of_ble_eq_true rfl) (kX3_ones hr)) (fun v2 _ => ?_)
      refine mg_iast (pc := 25) hC dX3_all_25 (fun w3 _ => ?_)
      refine mg_iinc (pc := 26) hC 2 (x2 + (1 : Int32)) [(2, .int (x2 + (1 : Int32))), (0, .ref x0), (1, .int x1)] dX3_all_26 rfl rfl (by decide) rfl ?_
      refine mg_goto (pc := 29) hC 11 dX3_all_29 (by decide) ?_
      exact mg_sub (pc := 11) [1, 2, 0] (L' := [(0, .ref x0), (1, .int x1), (2, .int (x2 + (1 : Int32)))]) rfl (ih _ _ _ _ _ _)
def fX3_all (x0 : Nat) (x1 : Int32) (w : mg_H) : Option (Int32 × mg_H) := (fX3_isLength x1).bind fun v1 => if v1 = 0 then (some ((-1 : Int32), w)) else (fX3_all_b11 mg_N x0 x1 (1 : Int32) w)
set_option maxHeartbeats 4000000 in
set_option maxRecDepth 100000 in
theorem kX3_all {E : mg_P} {l : Launch} {x0 : Nat} {x1 : Int32} {w : mg_H} {sz : Nat} {o : Int32 × mg_H} (hf : fX3_all x0 x1 w = some o) : mg_C E l yX3_all cX3_all 3 (some .int) 1 23 [.ref x0, .int x1] w sz ((mg_oS mg_vI) o) := by
  refine mg_meth (out := (mg_oS mg_vI)) (by decide) (Nat.le_of_ble_eq_true rfl) hf ?_
  intro p e C S s m below meth c hC hin
  have hC : mg_Cx E p s m _ meth c cX3_all 3 (some .int) RX3 := hC
  unfold fX3_all
  refine mg_sub (pc := 0) [0, 1] (L' := [(0, .ref x0), (1, .int x1)]) rfl ?_
  refine mg_iload_n (pc := 0) hC 1 dX3_all_0 rfl ?_
  refine mg_cRI (pc := 1) (fun r hr => mg_S (rest := []) hC wdX3_isLength mw_118 mw_117 dX3_all_1 rfl rfl ⟨Nat.le_of_ble_eq_true rfl, Nat.le_of_ble_eq_true rfl⟩ (Nat.le_of_ble_eq_true rfl) (kX3_isLength hr)) (fun v1 _ => ?_)
  refine mg_if_ne (pc := 4) hC 9 dX3_all_4 (by decide) (fun _ => ?_) (fun _ => ?_)
  · refine mg_iconst (pc := 7) hC (-1 : Int32) dX3_all_7 (by decide) ?_
    exact mg_iret (pc := 8) hC rfl dX3_all_8
  · refine mg_iconst (pc := 9) hC (1 : Int32) dX3_all_9 (by decide) ?_
    refine mg_istore_n (pc := 10) hC [(2, .int (1 : Int32)), (0, .ref x0), (1, .int x1)] dX3_all_10 (by decide) rfl ?_
    exact mg_sub (pc := 11) [1, 2, 0] (L' := [(0, .ref x0), (1, .int x1), (2, .int (1 : Int32))]) rfl (gX3_all_b11 hC _  _ _ _ _ _ _ _)
theorem wdX3_all : mg_WdV 3 yX3_all cX3_all 3 (some .int) 1 := ⟨⟨mw_116, mw_1, by decide, by decide, by decide +kernel⟩, _, rfl, mw_114, mw_115⟩
def fX3_letter (x0 : Nat) (x1 : Int32) (x2 : Int32) (x3 : Int32) (w : mg_H) : Option (Int32) := mg_rc w 3 x0 ((fX3_turnAt x0 x1 w).bind fun v1 => mg_rc w 3 x0 ((fX3_turnAt x0 x2 w).bind fun v2 => mg_if0 v1 (some (-1 : Int32)) (fun a3 => mg_if0 v2 (some (-1 : Int32)) (fun a4 => (fX3_isDoublings x3).bind fun v5 => if v5 = 0 then (some (-1 : Int32)) else (mg_rc w 2 a3 ((fX2_upAfter a3 x3 w).bind fun v6 => (mg_gI w 2 a3 1).bind fun v7 => mg_rc w 2 a4 ((fX2_letterOf a4 v6 v7 w).bind fun v8 => some v8)))))))
set_option maxHeartbeats 4000000 in
set_option maxRecDepth 100000 in
theorem kX3_letter {E : mg_P} {l : Launch} {x0 : Nat} {x1 : Int32} {x2 : Int32} {x3 : Int32} {w : mg_H} {sz : Nat} {o : Int32} (hf : fX3_letter x0 x1 x2 x3 w = some o) : mg_C E l yX3_letter cX3_letter 6 (some .int) 2 49 [.ref x0, .int x1, .int x2, .int x3] w sz ((mg_oR mg_vI w) o) := by
  refine mg_meth (out := (mg_oR mg_vI w)) (by decide) (Nat.le_of_ble_eq_true rfl) hf ?_
  intro p e C S s m below meth c hC hin
  have hC : mg_Cx E p s m _ meth c cX3_letter 6 (some .int) RX3 := hC
  unfold fX3_letter
  refine mg_sub (pc := 0) [0, 1, 2, 3] (L' := [(0, .ref x0), (1, .int x1), (2, .int x2), (3, .int x3)]) rfl ?_
  refine mg_aload_n (pc := 0) hC 0 dX3_letter_0 rfl ?_
  refine mg_iload_n (pc := 1) hC 1 dX3_letter_1 rfl ?_
  refine mg_recv (ci := 3) (fun hb => ?_)
  refine mg_cRQ (pc := 2) (fun r hr => mg_VR (rest := []) (av := [.int x1]) (ci := 3) hC wdX3_turnAt mw_96 dX3_letter_2 rfl rfl ⟨Nat.le_of_ble_eq_true rfl, Nat.le_of_ble_eq_true rfl⟩ (Nat.le_of_ble_eq_true rfl) hb (kX3_turnAt hr)) (fun v1 _ => ?_)
  refine mg_astoreQ (pc := 5) hC [(4, va_rf v1), (0, .ref x0), (1, .int x1), (2, .int x2), (3, .int x3)] dX3_letter_5 (by decide) rfl ?_
  refine mg_aload_n (pc := 7) hC 1 dX3_letter_7 rfl ?_
  refine mg_iload_n (pc := 8) hC 3 dX3_letter_8 rfl ?_
  refine mg_recv (ci := 3) (fun hb => ?_)
  refine mg_cRQ (pc := 9) (fun r hr => mg_VR (rest := []) (av := [.int x2]) (ci := 3) hC wdX3_turnAt mw_96 dX3_letter_9 rfl rfl ⟨Nat.le_of_ble_eq_true rfl, Nat.le_of_ble_eq_true rfl⟩ (Nat.le_of_ble_eq_true rfl) hb (kX3_turnAt hr)) (fun v2 _ => ?_)
  refine mg_astoreQ (pc := 12) hC [(5, va_rf v2), (4, va_rf v1), (0, .ref x0), (1, .int x1), (2, .int x2), (3, .int x3)] dX3_letter_12 (by decide) (by cases v1 <;> rfl) ?_
  refine mg_aloadQ (pc := 14) hC 1 dX3_letter_14 rfl ?_
  refine mg_ifnull (pc := 16) hC 31 dX3_letter_16 (by decide) (fun hq => ?_) (fun a3 hq => ?_)
  · subst hq
    refine mg_iconst (pc := 31) hC (-1 : Int32) dX3_letter_31 (by decide) ?_
    exact mg_iret (pc := 32) hC rfl dX3_letter_32
  · subst hq
    refine mg_aloadQ (pc := 19) hC 0 dX3_letter_19 rfl ?_
    refine mg_ifnull (pc := 21) hC 31 dX3_letter_21 (by decide) (fun hq => ?_) (fun a4 hq => ?_)
    · subst hq
      refine mg_iconst (pc := 31) hC (-1 : Int32) dX3_letter_31 (by decide) ?_
      exact mg_iret (pc := 32) hC rfl dX3_letter_32
    · subst hq
      refine mg_iload_n (pc := 24) hC 5 dX3_letter_24 rfl ?_
      refine mg_cRI (pc := 25) (fun r hr => mg_S (rest := []) hC wdX3_isDoublings mw_105 mw_104 dX3_letter_25 rfl rfl ⟨Nat.le_of_ble_eq_true rfl, Nat.le_of_ble_eq_true rfl⟩ (Nat.le_of_ble_eq_true rfl) (kX3_isDoublings hr)) (fun v5 _ => ?_)
      refine mg_if_ne (pc := 28) hC 33 dX3_letter_28 (by decide) (fun _ => ?_) (fun _ => ?_)
      · refine mg_iconst (pc := 31) hC (-1 : Int32) dX3_letter_31 (by decide) ?_
        exact mg_iret (pc := 32) hC rfl dX3_letter_32
      · refine mg_aload (pc := 33) hC 0 dX3_letter_33 rfl ?_
        refine mg_aload (pc := 35) hC 1 dX3_letter_35 rfl ?_
        refine mg_iload_n (pc := 37) hC 5 dX3_letter_37 rfl ?_
        refine mg_recv (ci := 2) (fun hb => ?_)
        refine mg_cRI (pc := 38) (fun r hr => mg_VR (rest := [.ref a4]) (av := [.int x3]) (ci := 2) hC wdX2_upAfter mw_110 dX3_letter_38 rfl rfl ⟨Nat.le_of_ble_eq_true rfl, Nat.le_of_ble_eq_true rfl⟩ (Nat.le_of_ble_eq_true rfl) hb (kX2_upAfter hr)) (fun v6 _ => ?_)
        refine mg_aload (pc := 41) hC 1 dX3_letter_41 rfl ?_
        refine mg_getI (pc := 43) (ci := 2) (k := 1) hC mi_2 rfl (by decide) mw_73 dX3_letter_43 (fun v7 _ => ?_)
        refine mg_recv (ci := 2) (fun hb => ?_)
        refine mg_cRI (pc := 46) (fun r hr => mg_VR (rest := []) (av := [.int v6, .int v7]) (ci := 2) hC wdX2_letterOf mw_131 dX3_letter_46 rfl rfl ⟨Nat.le_of_ble_eq_true rfl, Nat.le_of_ble_eq_true rfl⟩ (Nat.le_of_ble_eq_true rfl) hb (kX2_letterOf hr)) (fun v8 _ => ?_)
        exact mg_iret (pc := 49) hC rfl dX3_letter_49
theorem wdX3_letter : mg_WdV 3 yX3_letter cX3_letter 6 (some .int) 3 := ⟨⟨mw_130, mw_1, by decide, by decide, by decide +kernel⟩, _, rfl, mw_128, mw_129⟩
end MG02
