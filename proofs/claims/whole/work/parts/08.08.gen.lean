section MG08
variable {E : mg_P} {p : Program} {l : Launch} {e : Env} {C S : Nat} {s : State} {m : MethodId} {args : Array Value} {below : List Frame} {meth : Method} {c : Code}
def fX4_tailOf_b4 : Nat → Int32 → Int64 → Option (Int32)
  | 0, _, _ => none
  | n + 1, x2, x3 => if (2 : Int64) = 0 then none else (if (lg_cmp (x3 - x3 / (2 : Int64) * (2 : Int64)) (0 : Int64)) = 0 then (if (2 : Int64) = 0 then none else (fX4_tailOf_b4 n (x2 + (1 : Int32)) (x3 / (2 : Int64)))) else (some x2))
set_option maxHeartbeats 4000000 in
set_option maxRecDepth 100000 in
theorem gX4_tailOf_b4 (hC : mg_Cx E p s m args meth c cX4_tailOf 5 (some .int) RX4) (w : mg_H) (sz : Nat) : ∀ (n : Nat) (x2 : Int32) (x3 : Int64) (cells slots : Nat), mg_G E p l e ({ frames := 0, cells := C, slots := S, locals := 0 } : Room) s m args below meth c 5 (mg_oR mg_vI w) (fX4_tailOf_b4 n x2 x3) w sz cells slots 4 [(2, .int x2), (3, .long x3)] [] := by
  intro n
  induction n with
  | zero => intros; exact fun o hf => by rw [fX4_tailOf_b4] at hf; cases hf
  | succ n ih =>
    intro x2 x3 cells slots
    rw [fX4_tailOf_b4]
    refine mg_lload_n (pc := 4) hC 1 dX4_tailOf_4 rfl ?_
    refine mg_ldc2 (pc := 5) hC (2 : Int64) dX4_tailOf_5 mw_437 ?_
    refine mg_lrem (pc := 8) hC dX4_tailOf_8 ?_
    refine mg_lconst (pc := 9) hC (0 : Int64) dX4_tailOf_9 (by decide) ?_
    refine mg_lcmp (pc := 10) hC dX4_tailOf_10 ?_
    refine mg_if_ne (pc := 11) hC 26 dX4_tailOf_11 (by decide) (fun _ => ?_) (fun _ => ?_)
    · refine mg_iinc (pc := 14) hC 0 (x2 + (1 : Int32)) [(2, .int (x2 + (1 : Int32))), (3, .long x3)] dX4_tailOf_14 rfl rfl (by decide) rfl ?_
      refine mg_lload_n (pc := 17) hC 1 dX4_tailOf_17 rfl ?_
      refine mg_ldc2 (pc := 18) hC (2 : Int64) dX4_tailOf_18 mw_437 ?_
      refine mg_ldiv (pc := 21) hC dX4_tailOf_21 ?_
      refine mg_lstore_n (pc := 22) hC [(3, .long (x3 / (2 : Int64))), (2, .int (x2 + (1 : Int32)))] dX4_tailOf_22 (by decide) rfl ?_
      refine mg_goto (pc := 23) hC 4 dX4_tailOf_23 (by decide) ?_
      exact mg_sub (pc := 4) [1, 0] (L' := [(2, .int (x2 + (1 : Int32))), (3, .long (x3 / (2 : Int64)))]) rfl (ih _ _ _ _)
    · refine mg_iload_n (pc := 26) hC 0 dX4_tailOf_26 rfl ?_
      exact mg_iret (pc := 27) hC rfl dX4_tailOf_27
def fX4_tailOf (x0 : Int64) : Option (Int32) := fX4_tailOf_b4 mg_N (0 : Int32) x0
set_option maxHeartbeats 4000000 in
set_option maxRecDepth 100000 in
theorem kX4_tailOf {E : mg_P} {l : Launch} {x0 : Int64} {w : mg_H} {sz : Nat} {o : Int32} (hf : fX4_tailOf x0 = some o) : mg_C E l yX4_tailOf cX4_tailOf 5 (some .int) 0 0 [.long x0] w sz ((mg_oR mg_vI w) o) := by
  refine mg_meth (out := (mg_oR mg_vI w)) (by decide) (Nat.le_of_ble_eq_true rfl) hf ?_
  intro p e C S s m below meth c hC hin
  have hC : mg_Cx E p s m _ meth c cX4_tailOf 5 (some .int) RX4 := hC
  unfold fX4_tailOf
  refine mg_sub (pc := 0) [0] (L' := [(0, .long x0)]) rfl ?_
  refine mg_iconst (pc := 0) hC (0 : Int32) dX4_tailOf_0 (by decide) ?_
  refine mg_istore_n (pc := 1) hC [(2, .int (0 : Int32)), (0, .long x0)] dX4_tailOf_1 (by decide) rfl ?_
  refine mg_lload_n (pc := 2) hC 1 dX4_tailOf_2 rfl ?_
  refine mg_lstore_n (pc := 3) hC [(3, .long x0), (2, .int (0 : Int32)), (0, .long x0)] dX4_tailOf_3 (by decide) rfl ?_
  exact mg_sub (pc := 4) [1, 0] (L' := [(2, .int (0 : Int32)), (3, .long x0)]) rfl (gX4_tailOf_b4 hC _ _  _ _ _ _ _)
theorem wdX4_tailOf : mg_Wd yX4_tailOf cX4_tailOf 5 (some .int) 1 := ⟨mw_503, mw_2, by decide, by decide, by decide +kernel⟩
def fX4_told (x0 : Nat) (x1 : Int32) (x2 : Int32) (w : mg_H) : Option (Int32) := mg_rc w 4 x0 ((fX4_isAngle x0 x1 w).bind fun v1 => if v1 = 0 then (some (-1 : Int32)) else ((fX4_in (x2.toInt64) (0 : Int64) (3 : Int64)).bind fun v2 => if v2 = 0 then (some (-1 : Int32)) else (if x2 = 0 then (mg_gN w 4 x0 1 fun v3 => (mg_ldL w v3 x1).bind fun v4 => some (v4.toInt32)) else (if x2 = (1 : Int32) then (mg_gN w 4 x0 2 fun v5 => (mg_ldL w v5 x1).bind fun v6 => some (v6.toInt32)) else (if x2 = (2 : Int32) then (mg_gN w 4 x0 2 fun v7 => (mg_ldL w v7 x1).bind fun v8 => (fX4_tailOf v8).bind fun v9 => some v9) else (mg_gN w 4 x0 2 fun v10 => (mg_ldL w v10 x1).bind fun v11 => (fX4_lengthOf v11).bind fun v12 => some v12))))))
set_option maxHeartbeats 4000000 in
set_option maxRecDepth 100000 in
theorem kX4_told {E : mg_P} {l : Launch} {x0 : Nat} {x1 : Int32} {x2 : Int32} {w : mg_H} {sz : Nat} {o : Int32} (hf : fX4_told x0 x1 x2 w = some o) : mg_C E l yX4_told cX4_told 3 (some .int) 2 46 [.ref x0, .int x1, .int x2] w sz ((mg_oR mg_vI w) o) := by
  refine mg_meth (out := (mg_oR mg_vI w)) (by decide) (Nat.le_of_ble_eq_true rfl) hf ?_
  intro p e C S s m below meth c hC hin
  have hC : mg_Cx E p s m _ meth c cX4_told 3 (some .int) RX4 := hC
  unfold fX4_told
  refine mg_sub (pc := 0) [0, 1, 2] (L' := [(0, .ref x0), (1, .int x1), (2, .int x2)]) rfl ?_
  refine mg_aload_n (pc := 0) hC 0 dX4_told_0 rfl ?_
  refine mg_iload_n (pc := 1) hC 1 dX4_told_1 rfl ?_
  refine mg_recv (ci := 4) (fun hb => ?_)
  refine mg_cRI (pc := 2) (fun r hr => mg_VR (rest := []) (av := [.int x1]) (ci := 4) hC wdX4_isAngle mw_496 dX4_told_2 rfl rfl ⟨Nat.le_of_ble_eq_true rfl, Nat.le_of_ble_eq_true rfl⟩ (Nat.le_of_ble_eq_true rfl) hb (kX4_isAngle hr)) (fun v1 _ => ?_)
  refine mg_if_eq (pc := 5) hC 20 dX4_told_5 (by decide) (fun _ => ?_) (fun _ => ?_)
  · refine mg_iconst (pc := 20) hC (-1 : Int32) dX4_told_20 (by decide) ?_
    exact mg_iret (pc := 21) hC rfl dX4_told_21
  · refine mg_iload_n (pc := 8) hC 2 dX4_told_8 rfl ?_
    refine mg_i2l (pc := 9) hC dX4_told_9 ?_
    refine mg_lconst (pc := 10) hC (0 : Int64) dX4_told_10 (by decide) ?_
    refine mg_ldc2 (pc := 11) hC (3 : Int64) dX4_told_11 mw_500 ?_
    refine mg_cRI (pc := 14) (fun r hr => mg_S (rest := []) hC wdX4_in mw_426 mw_425 dX4_told_14 rfl rfl ⟨Nat.le_of_ble_eq_true rfl, Nat.le_of_ble_eq_true rfl⟩ (Nat.le_of_ble_eq_true rfl) (kX4_in hr)) (fun v2 _ => ?_)
    refine mg_if_ne (pc := 17) hC 22 dX4_told_17 (by decide) (fun _ => ?_) (fun _ => ?_)
    · refine mg_iconst (pc := 20) hC (-1 : Int32) dX4_told_20 (by decide) ?_
      exact mg_iret (pc := 21) hC rfl dX4_told_21
    · refine mg_iload_n (pc := 22) hC 2 dX4_told_22 rfl ?_
      refine mg_if_ne (pc := 23) hC 36 dX4_told_23 (by decide) (fun _ => ?_) (fun _ => ?_)
      · refine mg_aload_n (pc := 26) hC 0 dX4_told_26 rfl ?_
        refine mg_getNN (pc := 27) (ci := 4) (k := 1) hC mi_4 rfl (by decide) mw_446 dX4_told_27 (fun v3 _ => ?_)
        refine mg_iload_n (pc := 30) hC 1 dX4_told_30 rfl ?_
        refine mg_lald (pc := 31) hC dX4_told_31 (fun v4 _ => ?_)
        refine mg_l2i (pc := 32) hC dX4_told_32 ?_
        refine mg_goto (pc := 33) hC 77 dX4_told_33 (by decide) ?_
        exact mg_iret (pc := 77) hC rfl dX4_told_77
      · refine mg_iload_n (pc := 36) hC 2 dX4_told_36 rfl ?_
        refine mg_iconst (pc := 37) hC (1 : Int32) dX4_told_37 (by decide) ?_
        refine mg_icmp_ne (pc := 38) hC 51 dX4_told_38 (by decide) (fun _ => ?_) (fun _ => ?_)
        · refine mg_aload_n (pc := 41) hC 0 dX4_told_41 rfl ?_
          refine mg_getNN (pc := 42) (ci := 4) (k := 2) hC mi_4 rfl (by decide) mw_447 dX4_told_42 (fun v5 _ => ?_)
          refine mg_iload_n (pc := 45) hC 1 dX4_told_45 rfl ?_
          refine mg_lald (pc := 46) hC dX4_told_46 (fun v6 _ => ?_)
          refine mg_l2i (pc := 47) hC dX4_told_47 ?_
          refine mg_goto (pc := 48) hC 77 dX4_told_48 (by decide) ?_
          exact mg_iret (pc := 77) hC rfl dX4_told_77
        · refine mg_iload_n (pc := 51) hC 2 dX4_told_51 rfl ?_
          refine mg_iconst (pc := 52) hC (2 : Int32) dX4_told_52 (by decide) ?_
          refine mg_icmp_ne (pc := 53) hC 68 dX4_told_53 (by decide) (fun _ => ?_) (fun _ => ?_)
          · refine mg_aload_n (pc := 56) hC 0 dX4_told_56 rfl ?_
            refine mg_getNN (pc := 57) (ci := 4) (k := 2) hC mi_4 rfl (by decide) mw_447 dX4_told_57 (fun v7 _ => ?_)
            refine mg_iload_n (pc := 60) hC 1 dX4_told_60 rfl ?_
            refine mg_lald (pc := 61) hC dX4_told_61 (fun v8 _ => ?_)
            refine mg_cRI (pc := 62) (fun r hr => mg_S (rest := []) hC wdX4_tailOf mw_502 mw_501 dX4_told_62 rfl rfl ⟨Nat.le_of_ble_eq_true rfl, Nat.le_of_ble_eq_true rfl⟩ (Nat.le_of_ble_eq_true rfl) (kX4_tailOf hr)) (fun v9 _ => ?_)
            refine mg_goto (pc := 65) hC 77 dX4_told_65 (by decide) ?_
            exact mg_iret (pc := 77) hC rfl dX4_told_77
          · refine mg_aload_n (pc := 68) hC 0 dX4_told_68 rfl ?_
            refine mg_getNN (pc := 69) (ci := 4) (k := 2) hC mi_4 rfl (by decide) mw_447 dX4_told_69 (fun v10 _ => ?_)
            refine mg_iload_n (pc := 72) hC 1 dX4_told_72 rfl ?_
            refine mg_lald (pc := 73) hC dX4_told_73 (fun v11 _ => ?_)
            refine mg_cRI (pc := 74) (fun r hr => mg_S (rest := []) hC wdX4_lengthOf mw_435 mw_434 dX4_told_74 rfl rfl ⟨Nat.le_of_ble_eq_true rfl, Nat.le_of_ble_eq_true rfl⟩ (Nat.le_of_ble_eq_true rfl) (kX4_lengthOf hr)) (fun v12 _ => ?_)
            exact mg_iret (pc := 77) hC rfl dX4_told_77
theorem wdX4_told : mg_WdV 4 yX4_told cX4_told 3 (some .int) 2 := ⟨⟨mw_495, mw_2, by decide, by decide, by decide +kernel⟩, _, rfl, mw_493, mw_494⟩
def fX4_after_b6 : Nat → Int64 → Int32 → Int64 → Int32 → Option (Int64)
  | 0, _, _, _, _ => none
  | n + 1, x2, x4, x5, x7 => if x4 ≤ x7 then (some x5) else (if x2 = 0 then none else (fX4_after_b6 n x2 x4 (((2 : Int64) * x5) - ((2 : Int64) * x5) / x2 * x2) (x7 + (1 : Int32))))
set_option maxHeartbeats 4000000 in
set_option maxRecDepth 100000 in
theorem gX4_after_b6 (hC : mg_Cx E p s m args meth c cX4_after 8 (some .long) RX4) (w : mg_H) (sz : Nat) : ∀ (n : Nat) (x2 : Int64) (x4 : Int32) (x5 : Int64) (x7 : Int32) (cells slots : Nat), mg_G E p l e ({ frames := 0, cells := C, slots := S, locals := 0 } : Room) s m args below meth c 8 (mg_oR mg_vL w) (fX4_after_b6 n x2 x4 x5 x7) w sz cells slots 6 [(2, .long x2), (4, .int x4), (5, .long x5), (7, .int x7)] [] := by
  intro n
  induction n with
  | zero => intros; exact fun o hf => by rw [fX4_after_b6] at hf; cases hf
  | succ n ih =>
    intro x2 x4 x5 x7 cells slots
    rw [fX4_after_b6]
    refine mg_iload (pc := 6) hC 3 dX4_after_6 rfl ?_
    refine mg_iload (pc := 8) hC 1 dX4_after_8 rfl ?_
    refine mg_icmp_ge (pc := 10) hC 29 dX4_after_10 (by decide) (fun _ => ?_) (fun _ => ?_)
    · refine mg_lload (pc := 29) hC 2 dX4_after_29 rfl ?_
      exact mg_lret (pc := 31) hC rfl dX4_after_31
    · refine mg_ldc2 (pc := 13) hC (2 : Int64) dX4_after_13 mw_437 ?_
      refine mg_lload (pc := 16) hC 2 dX4_after_16 rfl ?_
      refine mg_lmul (pc := 18) hC dX4_after_18 ?_
      refine mg_lload_n (pc := 19) hC 0 dX4_after_19 rfl ?_
      refine mg_lrem (pc := 20) hC dX4_after_20 ?_
      refine mg_lstore (pc := 21) hC [(5, .long (((2 : Int64) * x5) - ((2 : Int64) * x5) / x2 * x2)), (2, .long x2), (4, .int x4), (7, .int x7)] dX4_after_21 (by decide) rfl ?_
      refine mg_iinc (pc := 23) hC 3 (x7 + (1 : Int32)) [(7, .int (x7 + (1 : Int32))), (5, .long (((2 : Int64) * x5) - ((2 : Int64) * x5) / x2 * x2)), (2, .long x2), (4, .int x4)] dX4_after_23 rfl rfl (by decide) rfl ?_
      refine mg_goto (pc := 26) hC 6 dX4_after_26 (by decide) ?_
      exact mg_sub (pc := 6) [2, 3, 1, 0] (L' := [(2, .long x2), (4, .int x4), (5, .long (((2 : Int64) * x5) - ((2 : Int64) * x5) / x2 * x2)), (7, .int (x7 + (1 : Int32)))]) rfl (ih _ _ _ _ _ _)
def fX4_after (x0 : Int64) (x2 : Int64) (x4 : Int32) : Option (Int64) := fX4_after_b6 mg_N x2 x4 x0 (0 : Int32)
set_option maxHeartbeats 4000000 in
set_option maxRecDepth 100000 in
theorem kX4_after {E : mg_P} {l : Launch} {x0 : Int64} {x2 : Int64} {x4 : Int32} {w : mg_H} {sz : Nat} {o : Int64} (hf : fX4_after x0 x2 x4 = some o) : mg_C E l yX4_after cX4_after 8 (some .long) 0 0 [.long x0, .long x2, .int x4] w sz ((mg_oR mg_vL w) o) := by
  refine mg_meth (out := (mg_oR mg_vL w)) (by decide) (Nat.le_of_ble_eq_true rfl) hf ?_
  intro p e C S s m below meth c hC hin
  have hC : mg_Cx E p s m _ meth c cX4_after 8 (some .long) RX4 := hC
  unfold fX4_after
  refine mg_sub (pc := 0) [0, 1, 2] (L' := [(0, .long x0), (2, .long x2), (4, .int x4)]) rfl ?_
  refine mg_lload_n (pc := 0) hC 0 dX4_after_0 rfl ?_
  refine mg_lstore (pc := 1) hC [(5, .long x0), (0, .long x0), (2, .long x2), (4, .int x4)] dX4_after_1 (by decide) rfl ?_
  refine mg_iconst (pc := 3) hC (0 : Int32) dX4_after_3 (by decide) ?_
  refine mg_istore (pc := 4) hC [(7, .int (0 : Int32)), (5, .long x0), (0, .long x0), (2, .long x2), (4, .int x4)] dX4_after_4 (by decide) rfl ?_
  exact mg_sub (pc := 6) [3, 4, 1, 0] (L' := [(2, .long x2), (4, .int x4), (5, .long x0), (7, .int (0 : Int32))]) rfl (gX4_after_b6 hC _ _  _ _ _ _ _ _ _)
theorem wdX4_after : mg_Wd yX4_after cX4_after 8 (some .long) 3 := ⟨mw_511, mw_2, by decide, by decide, by decide +kernel⟩
def fX4_doubled (x0 : Nat) (x1 : Int32) (x2 : Int32) (x3 : Int32) (w : mg_H) : Option (Int32) := mg_rc w 4 x0 ((fX4_isAngle x0 x1 w).bind fun v1 => if v1 = 0 then (some (-1 : Int32)) else ((fX4_in (x2.toInt64) (0 : Int64) (100 : Int64)).bind fun v2 => if v2 = 0 then (some (-1 : Int32)) else ((fX4_in (x3.toInt64) (0 : Int64) (1 : Int64)).bind fun v3 => if v3 = 0 then (some (-1 : Int32)) else (mg_gN w 4 x0 1 fun v4 => (mg_ldL w v4 x1).bind fun v5 => mg_gN w 4 x0 2 fun v6 => (mg_ldL w v6 x1).bind fun v7 => (fX4_after v5 v7 x2).bind fun v8 => mg_gN w 4 x0 2 fun v9 => (mg_ldL w v9 x1).bind fun v10 => (fX4_divisor v8 v10).bind fun v11 => if x3 = 0 then (if v11 = 0 then none else (some ((v8 / v11).toInt32))) else (mg_gN w 4 x0 2 fun v12 => (mg_ldL w v12 x1).bind fun v13 => if v11 = 0 then none else (some ((v13 / v11).toInt32)))))))
set_option maxHeartbeats 4000000 in
set_option maxRecDepth 100000 in
theorem kX4_doubled {E : mg_P} {l : Launch} {x0 : Nat} {x1 : Int32} {x2 : Int32} {x3 : Int32} {w : mg_H} {sz : Nat} {o : Int32} (hf : fX4_doubled x0 x1 x2 x3 w = some o) : mg_C E l yX4_doubled cX4_doubled 8 (some .int) 2 46 [.ref x0, .int x1, .int x2, .int x3] w sz ((mg_oR mg_vI w) o) := by
  refine mg_meth (out := (mg_oR mg_vI w)) (by decide) (Nat.le_of_ble_eq_true rfl) hf ?_
  intro p e C S s m below meth c hC hin
  have hC : mg_Cx E p s m _ meth c cX4_doubled 8 (some .int) RX4 := hC
  unfold fX4_doubled
  refine mg_sub (pc := 0) [0, 1, 2, 3] (L' := [(0, .ref x0), (1, .int x1), (2, .int x2), (3, .int x3)]) rfl ?_
  refine mg_aload_n (pc := 0) hC 0 dX4_doubled_0 rfl ?_
  refine mg_iload_n (pc := 1) hC 1 dX4_doubled_1 rfl ?_
  refine mg_recv (ci := 4) (fun hb => ?_)
  refine mg_cRI (pc := 2) (fun r hr => mg_VR (rest := []) (av := [.int x1]) (ci := 4) hC wdX4_isAngle mw_496 dX4_doubled_2 rfl rfl ⟨Nat.le_of_ble_eq_true rfl, Nat.le_of_ble_eq_true rfl⟩ (Nat.le_of_ble_eq_true rfl) hb (kX4_isAngle hr)) (fun v1 _ => ?_)
  refine mg_if_eq (pc := 5) hC 30 dX4_doubled_5 (by decide) (fun _ => ?_) (fun _ => ?_)
  · refine mg_iconst (pc := 30) hC (-1 : Int32) dX4_doubled_30 (by decide) ?_
    exact mg_iret (pc := 31) hC rfl dX4_doubled_31
  · refine mg_iload_n (pc := 8) hC 2 dX4_doubled_8 rfl ?_
    refine mg_i2l (pc := 9) hC dX4_doubled_9 ?_
    refine mg_lconst (pc := 10) hC (0 : Int64) dX4_doubled_10 (by decide) ?_
    refine mg_ldc2 (pc := 11) hC (100 : Int64) dX4_doubled_11 mw_508 ?_
    refine mg_cRI (pc := 14) (fun r hr => mg_S (rest := []) hC wdX4_in mw_426 mw_425 dX4_doubled_14 rfl rfl ⟨Nat.le_of_ble_eq_true rfl, Nat.le_of_ble_eq_true rfl⟩ (Nat.le_of_ble_eq_true rfl) (kX4_in hr)) (fun v2 _ => ?_)
    refine mg_if_eq (pc := 17) hC 30 dX4_doubled_17 (by decide) (fun _ => ?_) (fun _ => ?_)
    · refine mg_iconst (pc := 30) hC (-1 : Int32) dX4_doubled_30 (by decide) ?_
      exact mg_iret (pc := 31) hC rfl dX4_doubled_31
    · refine mg_iload_n (pc := 20) hC 3 dX4_doubled_20 rfl ?_
      refine mg_i2l (pc := 21) hC dX4_doubled_21 ?_
      refine mg_lconst (pc := 22) hC (0 : Int64) dX4_doubled_22 (by decide) ?_
      refine mg_lconst (pc := 23) hC (1 : Int64) dX4_doubled_23 (by decide) ?_
      refine mg_cRI (pc := 24) (fun r hr => mg_S (rest := []) hC wdX4_in mw_426 mw_425 dX4_doubled_24 rfl rfl ⟨Nat.le_of_ble_eq_true rfl, Nat.le_of_ble_eq_true rfl⟩ (Nat.le_of_ble_eq_true rfl) (kX4_in hr)) (fun v3 _ => ?_)
      refine mg_if_ne (pc := 27) hC 32 dX4_doubled_27 (by decide) (fun _ => ?_) (fun _ => ?_)
      · refine mg_iconst (pc := 30) hC (-1 : Int32) dX4_doubled_30 (by decide) ?_
        exact mg_iret (pc := 31) hC rfl dX4_doubled_31
      · refine mg_aload_n (pc := 32) hC 0 dX4_doubled_32 rfl ?_
        refine mg_getNN (pc := 33) (ci := 4) (k := 1) hC mi_4 rfl (by decide) mw_446 dX4_doubled_33 (fun v4 _ => ?_)
        refine mg_iload_n (pc := 36) hC 1 dX4_doubled_36 rfl ?_
        refine mg_lald (pc := 37) hC dX4_doubled_37 (fun v5 _ => ?_)
        refine mg_aload_n (pc := 38) hC 0 dX4_doubled_38 rfl ?_
        refine mg_getNN (pc := 39) (ci := 4) (k := 2) hC mi_4 rfl (by decide) mw_447 dX4_doubled_39 (fun v6 _ => ?_)
        refine mg_iload_n (pc := 42) hC 1 dX4_doubled_42 rfl ?_
        refine mg_lald (pc := 43) hC dX4_doubled_43 (fun v7 _ => ?_)
        refine mg_iload_n (pc := 44) hC 2 dX4_doubled_44 rfl ?_
        refine mg_cRL (pc := 45) (fun r hr => mg_S (rest := []) hC wdX4_after mw_510 mw_509 dX4_doubled_45 rfl rfl ⟨Nat.le_of_ble_eq_true rfl, Nat.le_of_ble_eq_true rfl⟩ (Nat.le_of_ble_eq_true rfl) (kX4_after hr)) (fun v8 _ => ?_)
        refine mg_lstore (pc := 48) hC [(4, .long v8), (0, .ref x0), (1, .int x1), (2, .int x2), (3, .int x3)] dX4_doubled_48 (by decide) rfl ?_
        refine mg_lload (pc := 50) hC 0 dX4_doubled_50 rfl ?_
        refine mg_aload_n (pc := 52) hC 1 dX4_doubled_52 rfl ?_
        refine mg_getNN (pc := 53) (ci := 4) (k := 2) hC mi_4 rfl (by decide) mw_447 dX4_doubled_53 (fun v9 _ => ?_)
        refine mg_iload_n (pc := 56) hC 2 dX4_doubled_56 rfl ?_
        refine mg_lald (pc := 57) hC dX4_doubled_57 (fun v10 _ => ?_)
        refine mg_cRL (pc := 58) (fun r hr => mg_S (rest := []) hC wdX4_divisor mw_432 mw_431 dX4_doubled_58 rfl rfl ⟨Nat.le_of_ble_eq_true rfl, Nat.le_of_ble_eq_true rfl⟩ (Nat.le_of_ble_eq_true rfl) (kX4_divisor hr)) (fun v11 _ => ?_)
        refine mg_lstore (pc := 61) hC [(6, .long v11), (4, .long v8), (0, .ref x0), (1, .int x1), (2, .int x2), (3, .int x3)] dX4_doubled_61 (by decide) rfl ?_
        refine mg_iload_n (pc := 63) hC 5 dX4_doubled_63 rfl ?_
        refine mg_if_ne (pc := 64) hC 75 dX4_doubled_64 (by decide) (fun _ => ?_) (fun _ => ?_)
        · refine mg_lload (pc := 67) hC 1 dX4_doubled_67 rfl ?_
          refine mg_lload (pc := 69) hC 0 dX4_doubled_69 rfl ?_
          refine mg_ldiv (pc := 71) hC dX4_doubled_71 ?_
          refine mg_goto (pc := 72) hC 84 dX4_doubled_72 (by decide) ?_
          refine mg_l2i (pc := 84) hC dX4_doubled_84 ?_
          exact mg_iret (pc := 85) hC rfl dX4_doubled_85
        · refine mg_aload_n (pc := 75) hC 2 dX4_doubled_75 rfl ?_
          refine mg_getNN (pc := 76) (ci := 4) (k := 2) hC mi_4 rfl (by decide) mw_447 dX4_doubled_76 (fun v12 _ => ?_)
          refine mg_iload_n (pc := 79) hC 3 dX4_doubled_79 rfl ?_
          refine mg_lald (pc := 80) hC dX4_doubled_80 (fun v13 _ => ?_)
          refine mg_lload (pc := 81) hC 0 dX4_doubled_81 rfl ?_
          refine mg_ldiv (pc := 83) hC dX4_doubled_83 ?_
          refine mg_l2i (pc := 84) hC dX4_doubled_84 ?_
          exact mg_iret (pc := 85) hC rfl dX4_doubled_85
theorem wdX4_doubled : mg_WdV 4 yX4_doubled cX4_doubled 8 (some .int) 3 := ⟨⟨mw_507, mw_2, by decide, by decide, by decide +kernel⟩, _, rfl, mw_505, mw_506⟩
def fX4_moebius_b34 (r6 : Int32 → Int32 → Int32 → Option (Int32)) (x1 : Int32) (x2 : Int32) (x3 : Int32) : Option (Int32) := r6 x1 x2 (x3 + (1 : Int32))
set_option maxHeartbeats 4000000 in
set_option maxRecDepth 100000 in
theorem gX4_moebius_b34 (hC : mg_Cx E p s m args meth c cX4_moebius 4 (some .int) RX4) (w : mg_H) (sz : Nat) (r6 : Int32 → Int32 → Int32 → Option (Int32)) (hr6 : ∀ (z1 : Int32) (z2 : Int32) (z3 : Int32) (cells slots : Nat), mg_G E p l e ({ frames := 0, cells := C, slots := S, locals := 0 } : Room) s m args below meth c 4 (mg_oR mg_vI w) (r6 z1 z2 z3) w sz cells slots 6 [(1, .int z1), (2, .int z2), (3, .int z3)] []) (x1 : Int32) (x2 : Int32) (x3 : Int32) (cells slots : Nat) : mg_G E p l e ({ frames := 0, cells := C, slots := S, locals := 0 } : Room) s m args below meth c 4 (mg_oR mg_vI w) (fX4_moebius_b34 r6 x1 x2 x3) w sz cells slots 34 [(1, .int x1), (2, .int x2), (3, .int x3)] [] := by
  unfold fX4_moebius_b34
  refine mg_iinc (pc := 34) hC 2 (x3 + (1 : Int32)) [(3, .int (x3 + (1 : Int32))), (1, .int x1), (2, .int x2)] dX4_moebius_34 rfl rfl (by decide) rfl ?_
  refine mg_goto (pc := 37) hC 6 dX4_moebius_37 (by decide) ?_
  exact mg_sub (pc := 6) [1, 2, 0] (L' := [(1, .int x1), (2, .int x2), (3, .int (x3 + (1 : Int32)))]) rfl (hr6 _ _ _ _ _)
def fX4_moebius_b33 (r6 : Int32 → Int32 → Int32 → Option (Int32)) (x2 : Int32) (x3 : Int32) (s0 : Int32) : Option (Int32) := fX4_moebius_b34 r6 s0 x2 x3
set_option maxHeartbeats 4000000 in
set_option maxRecDepth 100000 in
theorem gX4_moebius_b33 (hC : mg_Cx E p s m args meth c cX4_moebius 4 (some .int) RX4) (w : mg_H) (sz : Nat) (r6 : Int32 → Int32 → Int32 → Option (Int32)) (hr6 : ∀ (z1 : Int32) (z2 : Int32) (z3 : Int32) (cells slots : Nat), mg_G E p l e ({ frames := 0, cells := C, slots := S, locals := 0 } : Room) s m args below meth c 4 (mg_oR mg_vI w) (r6 z1 z2 z3) w sz cells slots 6 [(1, .int z1), (2, .int z2), (3, .int z3)] []) (x2 : Int32) (x3 : Int32) (s0 : Int32) (cells slots : Nat) : mg_G E p l e ({ frames := 0, cells := C, slots := S, locals := 0 } : Room) s m args below meth c 4 (mg_oR mg_vI w) (fX4_moebius_b33 r6 x2 x3 s0) w sz cells slots 33 [(2, .int x2), (3, .int x3)] [.int s0] := by
  unfold fX4_moebius_b33
  refine mg_istore_n (pc := 33) hC [(1, .int s0), (2, .int x2), (3, .int x3)] dX4_moebius_33 (by decide) rfl ?_
  exact mg_sub (pc := 34) [0, 1, 2] (L' := [(1, .int s0), (2, .int x2), (3, .int x3)]) rfl (gX4_moebius_b34 hC _ _ _ hr6 _ _ _ _ _)
def fX4_moebius_b6 : Nat → Int32 → Int32 → Int32 → Option (Int32)
  | 0, _, _, _ => none
  | n + 1, x1, x2, x3 => if x2 < x3 then (some x1) else (if x3 = 0 then none else (if (x2 - x2 / x3 * x3) = 0 then (if x3 = 0 then none else (if x3 = 0 then none else (if ((x2 / x3) - (x2 / x3) / x3 * x3) = 0 then (fX4_moebius_b33 (fX4_moebius_b6 n) (x2 / x3) x3 (0 : Int32)) else (fX4_moebius_b33 (fX4_moebius_b6 n) (x2 / x3) x3 (-x1))))) else (fX4_moebius_b34 (fX4_moebius_b6 n) x1 x2 x3)))
set_option maxHeartbeats 4000000 in
set_option maxRecDepth 100000 in
theorem gX4_moebius_b6 (hC : mg_Cx E p s m args meth c cX4_moebius 4 (some .int) RX4) (w : mg_H) (sz : Nat) : ∀ (n : Nat) (x1 : Int32) (x2 : Int32) (x3 : Int32) (cells slots : Nat), mg_G E p l e ({ frames := 0, cells := C, slots := S, locals := 0 } : Room) s m args below meth c 4 (mg_oR mg_vI w) (fX4_moebius_b6 n x1 x2 x3) w sz cells slots 6 [(1, .int x1), (2, .int x2), (3, .int x3)] [] := by
  intro n
  induction n with
  | zero => intros; exact fun o hf => by rw [fX4_moebius_b6] at hf; cases hf
  | succ n ih =>
    intro x1 x2 x3 cells slots
    rw [fX4_moebius_b6]
    refine mg_iload_n (pc := 6) hC 2 dX4_moebius_6 rfl ?_
    refine mg_iload_n (pc := 7) hC 1 dX4_moebius_7 rfl ?_
    refine mg_icmp_gt (pc := 8) hC 40 dX4_moebius_8 (by decide) (fun _ => ?_) (fun _ => ?_)
    · refine mg_iload_n (pc := 40) hC 0 dX4_moebius_40 rfl ?_
      exact mg_iret (pc := 41) hC rfl dX4_moebius_41
    · refine mg_iload_n (pc := 11) hC 1 dX4_moebius_11 rfl ?_
      refine mg_iload_n (pc := 12) hC 2 dX4_moebius_12 rfl ?_
      refine mg_irem (pc := 13) hC dX4_moebius_13 ?_
      refine mg_if_ne (pc := 14) hC 34 dX4_moebius_14 (by decide) (fun _ => ?_) (fun _ => ?_)
      · refine mg_iload_n (pc := 17) hC 1 dX4_moebius_17 rfl ?_
        refine mg_iload_n (pc := 18) hC 2 dX4_moebius_18 rfl ?_
        refine mg_idiv (pc := 19) hC dX4_moebius_19 ?_
        refine mg_istore_n (pc := 20) hC [(2, .int (x2 / x3)), (1, .int x1), (3, .int x3)] dX4_moebius_20 (by decide) rfl ?_
        refine mg_iload_n (pc := 21) hC 0 dX4_moebius_21 rfl ?_
        refine mg_iload_n (pc := 22) hC 2 dX4_moebius_22 rfl ?_
        refine mg_irem (pc := 23) hC dX4_moebius_23 ?_
        refine mg_if_ne (pc := 24) hC 31 dX4_moebius_24 (by decide) (fun _ => ?_) (fun _ => ?_)
        · refine mg_iconst (pc := 27) hC (0 : Int32) dX4_moebius_27 (by decide) ?_
          refine mg_goto (pc := 28) hC 33 dX4_moebius_28 (by decide) ?_
          exact mg_sub (pc := 33) [0, 2] (L' := [(2, .int (x2 / x3)), (3, .int x3)]) rfl (gX4_moebius_b33 hC _ _ _ ih _ _ _ _ _)
        · refine mg_iload_n (pc := 31) hC 1 dX4_moebius_31 rfl ?_
          refine mg_ineg (pc := 32) hC dX4_moebius_32 ?_
          exact mg_sub (pc := 33) [0, 2] (L' := [(2, .int (x2 / x3)), (3, .int x3)]) rfl (gX4_moebius_b33 hC _ _ _ ih _ _ _ _ _)
      · exact mg_sub (pc := 34) [0, 1, 2] (L' := [(1, .int x1), (2, .int x2), (3, .int x3)]) rfl (gX4_moebius_b34 hC _ _ _ ih _ _ _ _ _)
def fX4_moebius (x0 : Int32) : Option (Int32) := fX4_moebius_b6 mg_N (1 : Int32) x0 (2 : Int32)
set_option maxHeartbeats 4000000 in
set_option maxRecDepth 100000 in
theorem kX4_moebius {E : mg_P} {l : Launch} {x0 : Int32} {w : mg_H} {sz : Nat} {o : Int32} (hf : fX4_moebius x0 = some o) : mg_C E l yX4_moebius cX4_moebius 4 (some .int) 0 0 [.int x0] w sz ((mg_oR mg_vI w) o) := by
  refine mg_meth (out := (mg_oR mg_vI w)) (by decide) (Nat.le_of_ble_eq_true rfl) hf ?_
  intro p e C S s m below meth c hC hin
  have hC : mg_Cx E p s m _ meth c cX4_moebius 4 (some .int) RX4 := hC
  unfold fX4_moebius
  refine mg_sub (pc := 0) [0] (L' := [(0, .int x0)]) rfl ?_
  refine mg_iconst (pc := 0) hC (1 : Int32) dX4_moebius_0 (by decide) ?_
  refine mg_istore_n (pc := 1) hC [(1, .int (1 : Int32)), (0, .int x0)] dX4_moebius_1 (by decide) rfl ?_
  refine mg_iload_n (pc := 2) hC 1 dX4_moebius_2 rfl ?_
  refine mg_istore_n (pc := 3) hC [(2, .int x0), (1, .int (1 : Int32)), (0, .int x0)] dX4_moebius_3 (by decide) rfl ?_
  refine mg_iconst (pc := 4) hC (2 : Int32) dX4_moebius_4 (by decide) ?_
  refine mg_istore_n (pc := 5) hC [(3, .int (2 : Int32)), (2, .int x0), (1, .int (1 : Int32)), (0, .int x0)] dX4_moebius_5 (by decide) rfl ?_
  exact mg_sub (pc := 6) [2, 1, 0] (L' := [(1, .int (1 : Int32)), (2, .int x0), (3, .int (2 : Int32))]) rfl (gX4_moebius_b6 hC _ _  _ _ _ _ _ _)
theorem wdX4_moebius : mg_Wd yX4_moebius cX4_moebius 4 (some .int) 1 := ⟨mw_519, mw_2, by decide, by decide, by decide +kernel⟩
def fX4_all_b46 (r18 : Int32 → Int32 → Int32 → Option (Int32)) (x1 : Int32) (x3 : Int32) (s0 : Int32) (s1 : Int32) : Option (Int32) := r18 x1 (s1 + s0) (x3 + (1 : Int32))
set_option maxHeartbeats 4000000 in
set_option maxRecDepth 100000 in
theorem gX4_all_b46 (hC : mg_Cx E p s m args meth c cX4_all 4 (some .int) RX4) (w : mg_H) (sz : Nat) (r18 : Int32 → Int32 → Int32 → Option (Int32)) (hr18 : ∀ (z1 : Int32) (z2 : Int32) (z3 : Int32) (cells slots : Nat), mg_G E p l e ({ frames := 1, cells := C, slots := S, locals := 25 } : Room) s m args below meth c 4 (mg_oR mg_vI w) (r18 z1 z2 z3) w sz cells slots 18 [(1, .int z1), (2, .int z2), (3, .int z3)] []) (x1 : Int32) (x3 : Int32) (s0 : Int32) (s1 : Int32) (cells slots : Nat) : mg_G E p l e ({ frames := 1, cells := C, slots := S, locals := 25 } : Room) s m args below meth c 4 (mg_oR mg_vI w) (fX4_all_b46 r18 x1 x3 s0 s1) w sz cells slots 46 [(1, .int x1), (3, .int x3)] [.int s0, .int s1] := by
  unfold fX4_all_b46
  refine mg_iadd (pc := 46) hC dX4_all_46 ?_
  refine mg_istore_n (pc := 47) hC [(2, .int (s1 + s0)), (1, .int x1), (3, .int x3)] dX4_all_47 (by decide) rfl ?_
  refine mg_iinc (pc := 48) hC 2 (x3 + (1 : Int32)) [(3, .int (x3 + (1 : Int32))), (2, .int (s1 + s0)), (1, .int x1)] dX4_all_48 rfl rfl (by decide) rfl ?_
  refine mg_goto (pc := 51) hC 18 dX4_all_51 (by decide) ?_
  exact mg_sub (pc := 18) [2, 1, 0] (L' := [(1, .int x1), (2, .int (s1 + s0)), (3, .int (x3 + (1 : Int32)))]) rfl (hr18 _ _ _ _ _)
def fX4_all_b18 : Nat → Int32 → Int32 → Int32 → Option (Int32)
  | 0, _, _, _ => none
  | n + 1, x1, x2, x3 => if x1 < x3 then (some x2) else (if x3 = 0 then none else (if (x1 - x1 / x3 * x3) = 0 then (if x3 = 0 then none else ((fX4_moebius (x1 / x3)).bind fun v1 => fX4_all_b46 (fX4_all_b18 n) x1 x3 (v1 * (((1 : Int32) <<< (x3 &&& 31)) - (1 : Int32))) x2)) else (fX4_all_b46 (fX4_all_b18 n) x1 x3 (0 : Int32) x2)))
set_option maxHeartbeats 4000000 in
set_option maxRecDepth 100000 in
theorem gX4_all_b18 (hC : mg_Cx E p s m args meth c cX4_all 4 (some .int) RX4) (w : mg_H) (sz : Nat) : ∀ (n : Nat) (x1 : Int32) (x2 : Int32) (x3 : Int32) (cells slots : Nat), mg_G E p l e ({ frames := 1, cells := C, slots := S, locals := 25 } : Room) s m args below meth c 4 (mg_oR mg_vI w) (fX4_all_b18 n x1 x2 x3) w sz cells slots 18 [(1, .int x1), (2, .int x2), (3, .int x3)] [] := by
  intro n
  induction n with
  | zero => intros; exact fun o hf => by rw [fX4_all_b18] at hf; cases hf
  | succ n ih =>
    intro x1 x2 x3 cells slots
    rw [fX4_all_b18]
    refine mg_iload_n (pc := 18) hC 2 dX4_all_18 rfl ?_
    refine mg_iload_n (pc := 19) hC 0 dX4_all_19 rfl ?_
    refine mg_icmp_gt (pc := 20) hC 54 dX4_all_20 (by decide) (fun _ => ?_) (fun _ => ?_)
    · refine mg_iload_n (pc := 54) hC 1 dX4_all_54 rfl ?_
      exact mg_iret (pc := 55) hC rfl dX4_all_55
    · refine mg_iload_n (pc := 23) hC 1 dX4_all_23 rfl ?_
      refine mg_iload_n (pc := 24) hC 0 dX4_all_24 rfl ?_
      refine mg_iload_n (pc := 25) hC 2 dX4_all_25 rfl ?_
      refine mg_irem (pc := 26) hC dX4_all_26 ?_
      refine mg_if_ne (pc := 27) hC 45 dX4_all_27 (by decide) (fun _ => ?_) (fun _ => ?_)
      · refine mg_iload_n (pc := 30) hC 0 dX4_all_30 rfl ?_
        refine mg_iload_n (pc := 31) hC 2 dX4_all_31 rfl ?_
        refine mg_idiv (pc := 32) hC dX4_all_32 ?_
        refine mg_cRI (pc := 33) (fun r hr => mg_S (rest := [.int x2]) hC wdX4_moebius mw_518 mw_517 dX4_all_33 rfl rfl ⟨Nat.le_of_ble_eq_true rfl, Nat.le_of_ble_eq_true rfl⟩ (Nat.le_of_ble_eq_true rfl) (kX4_moebius hr)) (fun v1 _ => ?_)
        refine mg_iconst (pc := 36) hC (1 : Int32) dX4_all_36 (by decide) ?_
        refine mg_iload_n (pc := 37) hC 2 dX4_all_37 rfl ?_
        refine mg_ishl (pc := 38) hC dX4_all_38 ?_
        refine mg_iconst (pc := 39) hC (1 : Int32) dX4_all_39 (by decide) ?_
        refine mg_isub (pc := 40) hC dX4_all_40 ?_
        refine mg_imul (pc := 41) hC dX4_all_41 ?_
        refine mg_goto (pc := 42) hC 46 dX4_all_42 (by decide) ?_
        exact mg_sub (pc := 46) [0, 2] (L' := [(1, .int x1), (3, .int x3)]) rfl (gX4_all_b46 hC _ _ _ ih _ _ _ _ _ _)
      · refine mg_iconst (pc := 45) hC (0 : Int32) dX4_all_45 (by decide) ?_
        exact mg_sub (pc := 46) [0, 2] (L' := [(1, .int x1), (3, .int x3)]) rfl (gX4_all_b46 hC _ _ _ ih _ _ _ _ _ _)
def fX4_all (x0 : Nat) (x1 : Int32) : Option (Int32) := (fX4_in (x1.toInt64) (1 : Int64) (20 : Int64)).bind fun v1 => if v1 = 0 then (some (-1 : Int32)) else (fX4_all_b18 mg_N x1 (0 : Int32) (1 : Int32))
set_option maxHeartbeats 4000000 in
set_option maxRecDepth 100000 in
theorem kX4_all {E : mg_P} {l : Launch} {x0 : Nat} {x1 : Int32} {w : mg_H} {sz : Nat} {o : Int32} (hf : fX4_all x0 x1 = some o) : mg_C E l yX4_all cX4_all 4 (some .int) 1 25 [.ref x0, .int x1] w sz ((mg_oR mg_vI w) o) := by
  refine mg_meth (out := (mg_oR mg_vI w)) (by decide) (Nat.le_of_ble_eq_true rfl) hf ?_
  intro p e C S s m below meth c hC hin
  have hC : mg_Cx E p s m _ meth c cX4_all 4 (some .int) RX4 := hC
  unfold fX4_all
  refine mg_sub (pc := 0) [0, 1] (L' := [(0, .ref x0), (1, .int x1)]) rfl ?_
  refine mg_iload_n (pc := 0) hC 1 dX4_all_0 rfl ?_
  refine mg_i2l (pc := 1) hC dX4_all_1 ?_
  refine mg_lconst (pc := 2) hC (1 : Int64) dX4_all_2 (by decide) ?_
  refine mg_ldc2 (pc := 3) hC (20 : Int64) dX4_all_3 mw_516 ?_
  refine mg_cRI (pc := 6) (fun r hr => mg_S (rest := []) hC wdX4_in mw_426 mw_425 dX4_all_6 rfl rfl ⟨Nat.le_of_ble_eq_true rfl, Nat.le_of_ble_eq_true rfl⟩ (Nat.le_of_ble_eq_true rfl) (kX4_in hr)) (fun v1 _ => ?_)
  refine mg_if_ne (pc := 9) hC 14 dX4_all_9 (by decide) (fun _ => ?_) (fun _ => ?_)
  · refine mg_iconst (pc := 12) hC (-1 : Int32) dX4_all_12 (by decide) ?_
    exact mg_iret (pc := 13) hC rfl dX4_all_13
  · refine mg_iconst (pc := 14) hC (0 : Int32) dX4_all_14 (by decide) ?_
    refine mg_istore_n (pc := 15) hC [(2, .int (0 : Int32)), (0, .ref x0), (1, .int x1)] dX4_all_15 (by decide) rfl ?_
    refine mg_iconst (pc := 16) hC (1 : Int32) dX4_all_16 (by decide) ?_
    refine mg_istore_n (pc := 17) hC [(3, .int (1 : Int32)), (2, .int (0 : Int32)), (0, .ref x0), (1, .int x1)] dX4_all_17 (by decide) rfl ?_
    exact mg_sub (pc := 18) [3, 1, 0] (L' := [(1, .int x1), (2, .int (0 : Int32)), (3, .int (1 : Int32))]) rfl (gX4_all_b18 hC _ _  _ _ _ _ _ _)
theorem wdX4_all : mg_WdV 4 yX4_all cX4_all 4 (some .int) 1 := ⟨⟨mw_515, mw_2, by decide, by decide, by decide +kernel⟩, _, rfl, mw_513, mw_514⟩
def fX4_side (x0 : Int64) (x2 : Int64) (x4 : Int64) (x6 : Int64) : Option (Int32) := if (lg_cmp (((2 : Int64) * x0) * x6) (x4 * x2)) = 0 then (some (2 : Int32)) else (if (lg_cmp (((2 : Int64) * x0) * x6) ((x4 + x6) * x2)) = 0 then (some (2 : Int32)) else (if (lg_cmp (((2 : Int64) * x0) * x6) (x4 * x2)) ≤ 0 then (some (0 : Int32)) else (if 0 ≤ (lg_cmp (((2 : Int64) * x0) * x6) ((x4 + x6) * x2)) then (some (0 : Int32)) else (some (1 : Int32)))))
set_option maxHeartbeats 4000000 in
set_option maxRecDepth 100000 in
theorem kX4_side {E : mg_P} {l : Launch} {x0 : Int64} {x2 : Int64} {x4 : Int64} {x6 : Int64} {w : mg_H} {sz : Nat} {o : Int32} (hf : fX4_side x0 x2 x4 x6 = some o) : mg_C E l yX4_side cX4_side 14 (some .int) 0 0 [.long x0, .long x2, .long x4, .long x6] w sz ((mg_oR mg_vI w) o) := by
  refine mg_meth (out := (mg_oR mg_vI w)) (by decide) (Nat.le_of_ble_eq_true rfl) hf ?_
  intro p e C S s m below meth c hC hin
  have hC : mg_Cx E p s m _ meth c cX4_side 14 (some .int) RX4 := hC
  unfold fX4_side
  refine mg_sub (pc := 0) [0, 1, 2, 3] (L' := [(0, .long x0), (2, .long x2), (4, .long x4), (6, .long x6)]) rfl ?_
  refine mg_ldc2 (pc := 0) hC (2 : Int64) dX4_side_0 mw_437 ?_
  refine mg_lload_n (pc := 3) hC 0 dX4_side_3 rfl ?_
  refine mg_lmul (pc := 4) hC dX4_side_4 ?_
  refine mg_lload (pc := 5) hC 3 dX4_side_5 rfl ?_
  refine mg_lmul (pc := 7) hC dX4_side_7 ?_
  refine mg_lstore (pc := 8) hC [(8, .long (((2 : Int64) * x0) * x6)), (0, .long x0), (2, .long x2), (4, .long x4), (6, .long x6)] dX4_side_8 (by decide) rfl ?_
  refine mg_lload (pc := 10) hC 3 dX4_side_10 rfl ?_
  refine mg_lload_n (pc := 12) hC 2 dX4_side_12 rfl ?_
  refine mg_lmul (pc := 13) hC dX4_side_13 ?_
  refine mg_lstore (pc := 14) hC [(10, .long (x4 * x2)), (8, .long (((2 : Int64) * x0) * x6)), (0, .long x0), (2, .long x2), (4, .long x4), (6, .long x6)] dX4_side_14 (by decide) rfl ?_
  refine mg_lload (pc := 16) hC 4 dX4_side_16 rfl ?_
  refine mg_lload (pc := 18) hC 5 dX4_side_18 rfl ?_
  refine mg_ladd (pc := 20) hC dX4_side_20 ?_
  refine mg_lload_n (pc := 21) hC 3 dX4_side_21 rfl ?_
  refine mg_lmul (pc := 22) hC dX4_side_22 ?_
  refine mg_lstore (pc := 23) hC [(12, .long ((x4 + x6) * x2)), (10, .long (x4 * x2)), (8, .long (((2 : Int64) * x0) * x6)), (0, .long x0), (2, .long x2), (4, .long x4), (6, .long x6)] dX4_side_23 (by decide) rfl ?_
  refine mg_lload (pc := 25) hC 2 dX4_side_25 rfl ?_
  refine mg_lload (pc := 27) hC 1 dX4_side_27 rfl ?_
  refine mg_lcmp (pc := 29) hC dX4_side_29 ?_
  refine mg_if_eq (pc := 30) hC 41 dX4_side_30 (by decide) (fun _ => ?_) (fun _ => ?_)
  · refine mg_iconst (pc := 41) hC (2 : Int32) dX4_side_41 (by decide) ?_
    refine mg_goto (pc := 42) hC 66 dX4_side_42 (by decide) ?_
    exact mg_iret (pc := 66) hC rfl dX4_side_66
  · refine mg_lload (pc := 33) hC 2 dX4_side_33 rfl ?_
    refine mg_lload (pc := 35) hC 0 dX4_side_35 rfl ?_
    refine mg_lcmp (pc := 37) hC dX4_side_37 ?_
    refine mg_if_ne (pc := 38) hC 45 dX4_side_38 (by decide) (fun _ => ?_) (fun _ => ?_)
    · refine mg_iconst (pc := 41) hC (2 : Int32) dX4_side_41 (by decide) ?_
      refine mg_goto (pc := 42) hC 66 dX4_side_42 (by decide) ?_
      exact mg_iret (pc := 66) hC rfl dX4_side_66
    · refine mg_lload (pc := 45) hC 2 dX4_side_45 rfl ?_
      refine mg_lload (pc := 47) hC 1 dX4_side_47 rfl ?_
      refine mg_lcmp (pc := 49) hC dX4_side_49 ?_
      refine mg_if_le (pc := 50) hC 65 dX4_side_50 (by decide) (fun _ => ?_) (fun _ => ?_)
      · refine mg_iconst (pc := 65) hC (0 : Int32) dX4_side_65 (by decide) ?_
        exact mg_iret (pc := 66) hC rfl dX4_side_66
      · refine mg_lload (pc := 53) hC 2 dX4_side_53 rfl ?_
        refine mg_lload (pc := 55) hC 0 dX4_side_55 rfl ?_
        refine mg_lcmp (pc := 57) hC dX4_side_57 ?_
        refine mg_if_ge (pc := 58) hC 65 dX4_side_58 (by decide) (fun _ => ?_) (fun _ => ?_)
        · refine mg_iconst (pc := 65) hC (0 : Int32) dX4_side_65 (by decide) ?_
          exact mg_iret (pc := 66) hC rfl dX4_side_66
        · refine mg_iconst (pc := 61) hC (1 : Int32) dX4_side_61 (by decide) ?_
          refine mg_goto (pc := 62) hC 66 dX4_side_62 (by decide) ?_
          exact mg_iret (pc := 66) hC rfl dX4_side_66
theorem wdX4_side : mg_Wd yX4_side cX4_side 14 (some .int) 4 := ⟨mw_530, mw_2, by decide, by decide, by decide +kernel⟩
def fX4_letterOf (x0 : Nat) (x1 : Int32) (x2 : Int32) (x3 : Int32) (w : mg_H) : Option (Int32) := mg_gN w 4 x0 1 fun v1 => (mg_ldL w v1 x1).bind fun v2 => mg_gN w 4 x0 2 fun v3 => (mg_ldL w v3 x1).bind fun v4 => (fX4_after v2 v4 x3).bind fun v5 => mg_gN w 4 x0 2 fun v6 => (mg_ldL w v6 x1).bind fun v7 => mg_gN w 4 x0 1 fun v8 => (mg_ldL w v8 x2).bind fun v9 => mg_gN w 4 x0 2 fun v10 => (mg_ldL w v10 x2).bind fun v11 => (fX4_side v5 v7 v9 v11).bind fun v12 => some v12
set_option maxHeartbeats 4000000 in
set_option maxRecDepth 100000 in
theorem kX4_letterOf {E : mg_P} {l : Launch} {x0 : Nat} {x1 : Int32} {x2 : Int32} {x3 : Int32} {w : mg_H} {sz : Nat} {o : Int32} (hf : fX4_letterOf x0 x1 x2 x3 w = some o) : mg_C E l yX4_letterOf cX4_letterOf 4 (some .int) 1 33 [.ref x0, .int x1, .int x2, .int x3] w sz ((mg_oR mg_vI w) o) := by
  refine mg_meth (out := (mg_oR mg_vI w)) (by decide) (Nat.le_of_ble_eq_true rfl) hf ?_
  intro p e C S s m below meth c hC hin
  have hC : mg_Cx E p s m _ meth c cX4_letterOf 4 (some .int) RX4 := hC
  unfold fX4_letterOf
  refine mg_sub (pc := 0) [0, 1, 2, 3] (L' := [(0, .ref x0), (1, .int x1), (2, .int x2), (3, .int x3)]) rfl ?_
  refine mg_aload_n (pc := 0) hC 0 dX4_letterOf_0 rfl ?_
  refine mg_getNN (pc := 1) (ci := 4) (k := 1) hC mi_4 rfl (by decide) mw_446 dX4_letterOf_1 (fun v1 _ => ?_)
  refine mg_iload_n (pc := 4) hC 1 dX4_letterOf_4 rfl ?_
  refine mg_lald (pc := 5) hC dX4_letterOf_5 (fun v2 _ => ?_)
  refine mg_aload_n (pc := 6) hC 0 dX4_letterOf_6 rfl ?_
  refine mg_getNN (pc := 7) (ci := 4) (k := 2) hC mi_4 rfl (by decide) mw_447 dX4_letterOf_7 (fun v3 _ => ?_)
  refine mg_iload_n (pc := 10) hC 1 dX4_letterOf_10 rfl ?_
  refine mg_lald (pc := 11) hC dX4_letterOf_11 (fun v4 _ => ?_)
  refine mg_iload_n (pc := 12) hC 3 dX4_letterOf_12 rfl ?_
  refine mg_cRL (pc := 13) (fun r hr => mg_S (rest := []) hC wdX4_after mw_510 mw_509 dX4_letterOf_13 rfl rfl ⟨Nat.le_of_ble_eq_true rfl, Nat.le_of_ble_eq_true rfl⟩ (Nat.le_of_ble_eq_true rfl) (kX4_after hr)) (fun v5 _ => ?_)
  refine mg_aload_n (pc := 16) hC 0 dX4_letterOf_16 rfl ?_
  refine mg_getNN (pc := 17) (ci := 4) (k := 2) hC mi_4 rfl (by decide) mw_447 dX4_letterOf_17 (fun v6 _ => ?_)
  refine mg_iload_n (pc := 20) hC 1 dX4_letterOf_20 rfl ?_
  refine mg_lald (pc := 21) hC dX4_letterOf_21 (fun v7 _ => ?_)
  refine mg_aload_n (pc := 22) hC 0 dX4_letterOf_22 rfl ?_
  refine mg_getNN (pc := 23) (ci := 4) (k := 1) hC mi_4 rfl (by decide) mw_446 dX4_letterOf_23 (fun v8 _ => ?_)
  refine mg_iload_n (pc := 26) hC 2 dX4_letterOf_26 rfl ?_
  refine mg_lald (pc := 27) hC dX4_letterOf_27 (fun v9 _ => ?_)
  refine mg_aload_n (pc := 28) hC 0 dX4_letterOf_28 rfl ?_
  refine mg_getNN (pc := 29) (ci := 4) (k := 2) hC mi_4 rfl (by decide) mw_447 dX4_letterOf_29 (fun v10 _ => ?_)
  refine mg_iload_n (pc := 32) hC 2 dX4_letterOf_32 rfl ?_
  refine mg_lald (pc := 33) hC dX4_letterOf_33 (fun v11 _ => ?_)
  refine mg_cRI (pc := 34) (fun r hr => mg_S (rest := []) hC wdX4_side mw_529 mw_528 dX4_letterOf_34 rfl rfl ⟨Nat.le_of_ble_eq_true rfl, Nat.le_of_ble_eq_true rfl⟩ (Nat.le_of_ble_eq_true rfl) (kX4_side hr)) (fun v12 _ => ?_)
  exact mg_iret (pc := 37) hC rfl dX4_letterOf_37
theorem wdX4_letterOf : mg_WdV 4 yX4_letterOf cX4_letterOf 4 (some .int) 3 := ⟨⟨mw_527, mw_2, by decide, by decide, by decide +kernel⟩, _, rfl, mw_526, mw_p23⟩
def fX4_letter (x0 : Nat) (x1 : Int32) (x2 : Int32) (x3 : Int32) (w : mg_H) : Option (Int32) := mg_rc w 4 x0 ((fX4_isAngle x0 x1 w).bind fun v1 => if v1 = 0 then (some (-1 : Int32)) else (mg_rc w 4 x0 ((fX4_isAngle x0 x2 w).bind fun v2 => if v2 = 0 then (some (-1 : Int32)) else ((fX4_in (x3.toInt64) (0 : Int64) (100 : Int64)).bind fun v3 => if v3 = 0 then (some (-1 : Int32)) else (mg_rc w 4 x0 ((fX4_letterOf x0 x1 x2 x3 w).bind fun v4 => some v4))))))
set_option maxHeartbeats 4000000 in
set_option maxRecDepth 100000 in
theorem kX4_letter {E : mg_P} {l : Launch} {x0 : Nat} {x1 : Int32} {x2 : Int32} {x3 : Int32} {w : mg_H} {sz : Nat} {o : Int32} (hf : fX4_letter x0 x1 x2 x3 w = some o) : mg_C E l yX4_letter cX4_letter 4 (some .int) 2 56 [.ref x0, .int x1, .int x2, .int x3] w sz ((mg_oR mg_vI w) o) := by
  refine mg_meth (out := (mg_oR mg_vI w)) (by decide) (Nat.le_of_ble_eq_true rfl) hf ?_
  intro p e C S s m below meth c hC hin
  have hC : mg_Cx E p s m _ meth c cX4_letter 4 (some .int) RX4 := hC
  unfold fX4_letter
  refine mg_sub (pc := 0) [0, 1, 2, 3] (L' := [(0, .ref x0), (1, .int x1), (2, .int x2), (3, .int x3)]) rfl ?_
  refine mg_aload_n (pc := 0) hC 0 dX4_letter_0 rfl ?_
  refine mg_iload_n (pc := 1) hC 1 dX4_letter_1 rfl ?_
  refine mg_recv (ci := 4) (fun hb => ?_)
  refine mg_cRI (pc := 2) (fun r hr => mg_VR (rest := []) (av := [.int x1]) (ci := 4) hC wdX4_isAngle mw_496 dX4_letter_2 rfl rfl ⟨Nat.le_of_ble_eq_true rfl, Nat.le_of_ble_eq_true rfl⟩ (Nat.le_of_ble_eq_true rfl) hb (kX4_isAngle hr)) (fun v1 _ => ?_)
  refine mg_if_eq (pc := 5) hC 38 dX4_letter_5 (by decide) (fun _ => ?_) (fun _ => ?_)
  · refine mg_iconst (pc := 38) hC (-1 : Int32) dX4_letter_38 (by decide) ?_
    exact mg_iret (pc := 39) hC rfl dX4_letter_39
  · refine mg_aload_n (pc := 8) hC 0 dX4_letter_8 rfl ?_
    refine mg_iload_n (pc := 9) hC 2 dX4_letter_9 rfl ?_
    refine mg_recv (ci := 4) (fun hb => ?_)
    refine mg_cRI (pc := 10) (fun r hr => mg_VR (rest := []) (av := [.int x2]) (ci := 4) hC wdX4_isAngle mw_496 dX4_letter_10 rfl rfl ⟨Nat.le_of_ble_eq_true rfl, Nat.le_of_ble_eq_true rfl⟩ (Nat.le_of_ble_eq_true rfl) hb (kX4_isAngle hr)) (fun v2 _ => ?_)
    refine mg_if_eq (pc := 13) hC 38 dX4_letter_13 (by decide) (fun _ => ?_) (fun _ => ?_)
    · refine mg_iconst (pc := 38) hC (-1 : Int32) dX4_letter_38 (by decide) ?_
      exact mg_iret (pc := 39) hC rfl dX4_letter_39
    · refine mg_iload_n (pc := 16) hC 3 dX4_letter_16 rfl ?_
      refine mg_i2l (pc := 17) hC dX4_letter_17 ?_
      refine mg_lconst (pc := 18) hC (0 : Int64) dX4_letter_18 (by decide) ?_
      refine mg_ldc2 (pc := 19) hC (100 : Int64) dX4_letter_19 mw_508 ?_
      refine mg_cRI (pc := 22) (fun r hr => mg_S (rest := []) hC wdX4_in mw_426 mw_425 dX4_letter_22 rfl rfl ⟨Nat.le_of_ble_eq_true rfl, Nat.le_of_ble_eq_true rfl⟩ (Nat.le_of_ble_eq_true rfl) (kX4_in hr)) (fun v3 _ => ?_)
      refine mg_if_eq (pc := 25) hC 38 dX4_letter_25 (by decide) (fun _ => ?_) (fun _ => ?_)
      · refine mg_iconst (pc := 38) hC (-1 : Int32) dX4_letter_38 (by decide) ?_
        exact mg_iret (pc := 39) hC rfl dX4_letter_39
      · refine mg_aload_n (pc := 28) hC 0 dX4_letter_28 rfl ?_
        refine mg_iload_n (pc := 29) hC 1 dX4_letter_29 rfl ?_
        refine mg_iload_n (pc := 30) hC 2 dX4_letter_30 rfl ?_
        refine mg_iload_n (pc := 31) hC 3 dX4_letter_31 rfl ?_
        refine mg_recv (ci := 4) (fun hb => ?_)
        refine mg_cRI (pc := 32) (fun r hr => mg_VR (rest := []) (av := [.int x1, .int x2, .int x3]) (ci := 4) hC wdX4_letterOf mw_524 dX4_letter_32 rfl rfl ⟨Nat.le_of_ble_eq_true rfl, Nat.le_of_ble_eq_true rfl⟩ (Nat.le_of_ble_eq_true rfl) hb (kX4_letterOf hr)) (fun v4 _ => ?_)
        refine mg_goto (pc := 35) hC 39 dX4_letter_35 (by decide) ?_
        exact mg_iret (pc := 39) hC rfl dX4_letter_39
theorem wdX4_letter : mg_WdV 4 yX4_letter cX4_letter 4 (some .int) 3 := ⟨⟨mw_523, mw_2, by decide, by decide, by decide +kernel⟩, _, rfl, mw_521, mw_522⟩
def fX4_isBack (x0 : Nat) (x1 : Int32) (w : mg_H) : Option (Int32) := mg_gN w 4 x0 2 fun v1 => (mg_ldL w v1 x1).bind fun v2 => if (2 : Int64) = 0 then none else (if (lg_cmp (v2 - v2 / (2 : Int64) * (2 : Int64)) (1 : Int64)) = 0 then (some (1 : Int32)) else (some (0 : Int32)))
set_option maxHeartbeats 4000000 in
set_option maxRecDepth 100000 in
theorem kX4_isBack {E : mg_P} {l : Launch} {x0 : Nat} {x1 : Int32} {w : mg_H} {sz : Nat} {o : Int32} (hf : fX4_isBack x0 x1 w = some o) : mg_C E l yX4_isBack cX4_isBack 2 (some .boolean) 0 0 [.ref x0, .int x1] w sz ((mg_oR mg_vI w) o) := by
  refine mg_meth (out := (mg_oR mg_vI w)) (by decide) (Nat.le_of_ble_eq_true rfl) hf ?_
  intro p e C S s m below meth c hC hin
  have hC : mg_Cx E p s m _ meth c cX4_isBack 2 (some .boolean) RX4 := hC
  unfold fX4_isBack
  refine mg_sub (pc := 0) [0, 1] (L' := [(0, .ref x0), (1, .int x1)]) rfl ?_
  refine mg_aload_n (pc := 0) hC 0 dX4_isBack_0 rfl ?_
  refine mg_getNN (pc := 1) (ci := 4) (k := 2) hC mi_4 rfl (by decide) mw_447 dX4_isBack_1 (fun v1 _ => ?_)
  refine mg_iload_n (pc := 4) hC 1 dX4_isBack_4 rfl ?_
  refine mg_lald (pc := 5) hC dX4_isBack_5 (fun v2 _ => ?_)
  refine mg_ldc2 (pc := 6) hC (2 : Int64) dX4_isBack_6 mw_437 ?_
  refine mg_lrem (pc := 9) hC dX4_isBack_9 ?_
  refine mg_lconst (pc := 10) hC (1 : Int64) dX4_isBack_10 (by decide) ?_
  refine mg_lcmp (pc := 11) hC dX4_isBack_11 ?_
  refine mg_if_ne (pc := 12) hC 19 dX4_isBack_12 (by decide) (fun _ => ?_) (fun _ => ?_)
  · refine mg_iconst (pc := 15) hC (1 : Int32) dX4_isBack_15 (by decide) ?_
    refine mg_goto (pc := 16) hC 20 dX4_isBack_16 (by decide) ?_
    exact mg_zretC (pc := 20) hC (by decide) rfl dX4_isBack_20
  · refine mg_iconst (pc := 19) hC (0 : Int32) dX4_isBack_19 (by decide) ?_
    exact mg_zretC (pc := 20) hC (by decide) rfl dX4_isBack_20
theorem wdX4_isBack : mg_WdV 4 yX4_isBack cX4_isBack 2 (some .boolean) 1 := ⟨⟨mw_538, mw_2, by decide, by decide, by decide +kernel⟩, _, rfl, mw_537, mw_p24⟩
def fX4_address_b94 (w : mg_H) (r41 : Nat → Int32 → Int32 → Int32 → Int32 → Int32 → Option (Int32)) (x0 : Nat) (x1 : Int32) (x2 : Int32) (x3 : Int32) (x5 : Int32) (x6 : Int32) : Option (Int32) := r41 x0 x1 x2 x3 x6 (x5 + (1 : Int32))
set_option maxHeartbeats 4000000 in
set_option maxRecDepth 100000 in
theorem gX4_address_b94 (hC : mg_Cx E p s m args meth c cX4_address 7 (some .int) RX4) (w : mg_H) (sz : Nat) (r41 : Nat → Int32 → Int32 → Int32 → Int32 → Int32 → Option (Int32)) (hr41 : ∀ (z0 : Nat) (z1 : Int32) (z2 : Int32) (z3 : Int32) (z4 : Int32) (z5 : Int32) (cells slots : Nat), mg_G E p l e ({ frames := 2, cells := C, slots := S, locals := 56 } : Room) s m args below meth c 7 (mg_oR mg_vI w) (r41 z0 z1 z2 z3 z4 z5) w sz cells slots 41 [(0, .ref z0), (1, .int z1), (2, .int z2), (3, .int z3), (4, .int z4), (5, .int z5)] []) (x0 : Nat) (x1 : Int32) (x2 : Int32) (x3 : Int32) (x5 : Int32) (x6 : Int32) (cells slots : Nat) : mg_G E p l e ({ frames := 2, cells := C, slots := S, locals := 56 } : Room) s m args below meth c 7 (mg_oR mg_vI w) (fX4_address_b94 w r41 x0 x1 x2 x3 x5 x6) w sz cells slots 94 [(0, .ref x0), (1, .int x1), (2, .int x2), (3, .int x3), (5, .int x5), (6, .int x6)] [] := by
  unfold fX4_address_b94
  refine mg_iload (pc := 94) hC 5 dX4_address_94 rfl ?_
  refine mg_istore (pc := 96) hC [(4, .int x6), (0, .ref x0), (1, .int x1), (2, .int x2), (3, .int x3), (5, .int x5), (6, .int x6)] dX4_address_96 (by decide) rfl ?_
  refine mg_iinc (pc := 98) hC 5 (x5 + (1 : Int32)) [(5, .int (x5 + (1 : Int32))), (4, .int x6), (0, .ref x0), (1, .int x1), (2, .int x2), (3, .int x3), (6, .int x6)] dX4_address_98 rfl rfl (by decide) rfl ?_
  refine mg_goto (pc := 101) hC 41 dX4_address_101 (by decide) ?_
  exact mg_sub (pc := 41) [2, 3, 4, 5, 1, 0] (L' := [(0, .ref x0), (1, .int x1), (2, .int x2), (3, .int x3), (4, .int x6), (5, .int (x5 + (1 : Int32)))]) rfl (hr41 _ _ _ _ _ _ _ _)
def fX4_address_b62 (w : mg_H) (r41 : Nat → Int32 → Int32 → Int32 → Int32 → Int32 → Option (Int32)) : Nat → Nat → Int32 → Int32 → Int32 → Int32 → Int32 → Int32 → Option (Int32)
  | 0, _, _, _, _, _, _, _ => none
  | n + 1, x0, x1, x2, x3, x4, x5, x6 => mg_rc w 4 x0 ((fX4_letterOf x0 x1 x1 (x6 - (1 : Int32)) w).bind fun v1 => mg_rc w 4 x0 ((fX4_letterOf x0 x1 x1 ((x6 - (1 : Int32)) - x4) w).bind fun v2 => if v1 = v2 then (fX4_address_b62 w r41 n x0 x1 x2 x3 x4 x5 (x6 + (1 : Int32))) else (fX4_address_b94 w r41 x0 x1 x2 x3 x5 x6)))
set_option maxHeartbeats 4000000 in
set_option maxRecDepth 100000 in
theorem gX4_address_b62 (hC : mg_Cx E p s m args meth c cX4_address 7 (some .int) RX4) (w : mg_H) (sz : Nat) (r41 : Nat → Int32 → Int32 → Int32 → Int32 → Int32 → Option (Int32)) (hr41 : ∀ (z0 : Nat) (z1 : Int32) (z2 : Int32) (z3 : Int32) (z4 : Int32) (z5 : Int32) (cells slots : Nat), mg_G E p l e ({ frames := 2, cells := C, slots := S, locals := 56 } : Room) s m args below meth c 7 (mg_oR mg_vI w) (r41 z0 z1 z2 z3 z4 z5) w sz cells slots 41 [(0, .ref z0), (1, .int z1), (2, .int z2), (3, .int z3), (4, .int z4), (5, .int z5)] []) : ∀ (n : Nat) (x0 : Nat) (x1 : Int32) (x2 : Int32) (x3 : Int32) (x4 : Int32) (x5 : Int32) (x6 : Int32) (cells slots : Nat), mg_G E p l e ({ frames := 2, cells := C, slots := S, locals := 56 } : Room) s m args below meth c 7 (mg_oR mg_vI w) (fX4_address_b62 w r41 n x0 x1 x2 x3 x4 x5 x6) w sz cells slots 62 [(0, .ref x0), (1, .int x1), (2, .int x2), (3, .int x3), (4, .int x4), (5, .int x5), (6, .int x6)] [] := by
  intro n
  induction n with
  | zero => intros; exact fun o hf => by rw [fX4_address_b62] at hf; cases hf
  | succ n ih =>
    intro x0 x1 x2 x3 x4 x5 x6 cells slots
    rw [fX4_address_b62]
    refine mg_aload_n (pc := 62) hC 0 dX4_address_62 rfl ?_
    refine mg_iload_n (pc := 63) hC 1 dX4_address_63 rfl ?_
    refine mg_iload_n (pc := 64) hC 1 dX4_address_64 rfl ?_
    refine mg_iload (pc := 65) hC 6 dX4_address_65 rfl ?_
    refine mg_iconst (pc := 67) hC (1 : Int32) dX4_address_67 (by decide) ?_
    refine mg_isub (pc := 68) hC dX4_address_68 ?_
    refine mg_recv (ci := 4) (fun hb => ?_)
    refine mg_cRI (pc := 69) (fun r hr => mg_VR (rest := []) (av := [.int x1, .int x1, .int (x6 - (1 : Int32))]) (ci := 4) hC wdX4_letterOf mw_524 dX4_address_69 rfl rfl ⟨Nat.le_of_ble_eq_true rfl, Nat.le_of_ble_eq_true rfl⟩ (Nat.le_of_ble_eq_true rfl) hb (kX4_letterOf hr)) (fun v1 _ => ?_)
    refine mg_aload_n (pc := 72) hC 0 dX4_address_72 rfl ?_
    refine mg_iload_n (pc := 73) hC 1 dX4_address_73 rfl ?_
    refine mg_iload_n (pc := 74) hC 1 dX4_address_74 rfl ?_
    refine mg_iload (pc := 75) hC 6 dX4_address_75 rfl ?_
    refine mg_iconst (pc := 77) hC (1 : Int32) dX4_address_77 (by decide) ?_
    refine mg_isub (pc := 78) hC dX4_address_78 ?_
    refine mg_iload (pc := 79) hC 4 dX4_address_79 rfl ?_
    refine mg_isub (pc := 81) hC dX4_address_81 ?_
    refine mg_recv (ci := 4) (fun hb => ?_)
    refine mg_cRI (pc := 82) (fun r hr => mg_VR (rest := [.int v1]) (av := [.int x1, .int x1, .int ((x6 - (1 : Int32)) - x4)]) (ci := 4) hC wdX4_letterOf mw_524 dX4_address_82 rfl rfl ⟨Nat.le_of_ble_eq_true rfl, Nat.le_of_ble_eq_true rfl⟩ (Nat.le_of_ble_eq_true rfl) hb (kX4_letterOf hr)) (fun v2 _ => ?_)
    refine mg_icmp_ne (pc := 85) hC 94 dX4_address_85 (by decide) (fun _ => ?_) (fun _ => ?_)
    · refine mg_iinc (pc := 88) hC 6 (x6 + (1 : Int32)) [(6, .int (x6 + (1 : Int32))), (0, .ref x0), (1, .int x1), (2, .int x2), (3, .int x3), (4, .int x4), (5, .int x5)] dX4_address_88 rfl rfl (by decide) rfl ?_
      refine mg_goto (pc := 91) hC 62 dX4_address_91 (by decide) ?_
      exact mg_sub (pc := 62) [1, 2, 3, 4, 5, 6, 0] (L' := [(0, .ref x0), (1, .int x1), (2, .int x2), (3, .int x3), (4, .int x4), (5, .int x5), (6, .int (x6 + (1 : Int32)))]) rfl (ih _ _ _ _ _ _ _ _ _)
    · exact mg_sub (pc := 94) [0, 1, 2, 3, 5, 6] (L' := [(0, .ref x0), (1, .int x1), (2, .int x2), (3, .int x3), (5, .int x5), (6, .int x6)]) rfl (gX4_address_b94 hC _ _ _ hr41 _ _ _ _ _ _ _ _)
def fX4_address_b41 (w : mg_H) : Nat → Nat → Int32 → Int32 → Int32 → Int32 → Int32 → Option (Int32)
  | 0, _, _, _, _, _, _ => none
  | n + 1, x0, x1, x2, x3, x4, x5 => if x2 ≤ x5 then (some x4) else (if x4 = x3 then (some (-4 : Int32)) else (fX4_address_b62 w (fX4_address_b41 w n) mg_N x0 x1 x2 x3 x4 x5 (x4 + (1 : Int32))))
set_option maxHeartbeats 4000000 in
set_option maxRecDepth 100000 in
theorem gX4_address_b41 (hC : mg_Cx E p s m args meth c cX4_address 7 (some .int) RX4) (w : mg_H) (sz : Nat) : ∀ (n : Nat) (x0 : Nat) (x1 : Int32) (x2 : Int32) (x3 : Int32) (x4 : Int32) (x5 : Int32) (cells slots : Nat), mg_G E p l e ({ frames := 2, cells := C, slots := S, locals := 56 } : Room) s m args below meth c 7 (mg_oR mg_vI w) (fX4_address_b41 w n x0 x1 x2 x3 x4 x5) w sz cells slots 41 [(0, .ref x0), (1, .int x1), (2, .int x2), (3, .int x3), (4, .int x4), (5, .int x5)] [] := by
  intro n
  induction n with
  | zero => intros; exact fun o hf => by rw [fX4_address_b41] at hf; cases hf
  | succ n ih =>
    intro x0 x1 x2 x3 x4 x5 cells slots
    rw [fX4_address_b41]
    refine mg_iload (pc := 41) hC 5 dX4_address_41 rfl ?_
    refine mg_iload_n (pc := 43) hC 2 dX4_address_43 rfl ?_
    refine mg_icmp_ge (pc := 44) hC 104 dX4_address_44 (by decide) (fun _ => ?_) (fun _ => ?_)
    · refine mg_iload (pc := 104) hC 4 dX4_address_104 rfl ?_
      exact mg_iret (pc := 106) hC rfl dX4_address_106
    · refine mg_iload (pc := 47) hC 4 dX4_address_47 rfl ?_
      refine mg_iload_n (pc := 49) hC 3 dX4_address_49 rfl ?_
      refine mg_icmp_ne (pc := 50) hC 56 dX4_address_50 (by decide) (fun _ => ?_) (fun _ => ?_)
      · refine mg_bipush (pc := 53) hC (-4 : Int32) dX4_address_53 (by decide) ?_
        exact mg_iret (pc := 55) hC rfl dX4_address_55
      · refine mg_iload (pc := 56) hC 4 dX4_address_56 rfl ?_
        refine mg_iconst (pc := 58) hC (1 : Int32) dX4_address_58 (by decide) ?_
        refine mg_iadd (pc := 59) hC dX4_address_59 ?_
        refine mg_istore (pc := 60) hC [(6, .int (x4 + (1 : Int32))), (0, .ref x0), (1, .int x1), (2, .int x2), (3, .int x3), (4, .int x4), (5, .int x5)] dX4_address_60 (by decide) rfl ?_
        exact mg_sub (pc := 62) [1, 2, 3, 4, 5, 6, 0] (L' := [(0, .ref x0), (1, .int x1), (2, .int x2), (3, .int x3), (4, .int x4), (5, .int x5), (6, .int (x4 + (1 : Int32)))]) rfl (gX4_address_b62 hC _ _ _ ih _ _ _ _ _ _ _ _ _ _)
def fX4_address (x0 : Nat) (x1 : Int32) (x2 : Int32) (w : mg_H) : Option (Int32) := mg_rc w 4 x0 ((fX4_isAngle x0 x1 w).bind fun v1 => if v1 = 0 then (some (-1 : Int32)) else (if 0 ≤ x2 then (mg_rc w 4 x0 ((fX4_isBack x0 x1 w).bind fun v2 => if v2 = 0 then (some (-2 : Int32)) else (mg_gN w 4 x0 2 fun v3 => (mg_ldL w v3 x1).bind fun v4 => (fX4_lengthOf v4).bind fun v5 => fX4_address_b41 w mg_N x0 x1 x2 v5 (1 : Int32) (0 : Int32)))) else (some (-1 : Int32))))
set_option maxHeartbeats 4000000 in
set_option maxRecDepth 100000 in
theorem kX4_address {E : mg_P} {l : Launch} {x0 : Nat} {x1 : Int32} {x2 : Int32} {w : mg_H} {sz : Nat} {o : Int32} (hf : fX4_address x0 x1 x2 w = some o) : mg_C E l yX4_address cX4_address 7 (some .int) 2 56 [.ref x0, .int x1, .int x2] w sz ((mg_oR mg_vI w) o) := by
  refine mg_meth (out := (mg_oR mg_vI w)) (by decide) (Nat.le_of_ble_eq_true rfl) hf ?_
  intro p e C S s m below meth c hC hin
  have hC : mg_Cx E p s m _ meth c cX4_address 7 (some .int) RX4 := hC
  unfold fX4_address
  refine mg_sub (pc := 0) [0, 1, 2] (L' := [(0, .ref x0), (1, .int x1), (2, .int x2)]) rfl ?_
  refine mg_aload_n (pc := 0) hC 0 dX4_address_0 rfl ?_
  refine mg_iload_n (pc := 1) hC 1 dX4_address_1 rfl ?_
  refine mg_recv (ci := 4) (fun hb => ?_)
  refine mg_cRI (pc := 2) (fun r hr => mg_VR (rest := []) (av := [.int x1]) (ci := 4) hC wdX4_isAngle mw_496 dX4_address_2 rfl rfl ⟨Nat.le_of_ble_eq_true rfl, Nat.le_of_ble_eq_true rfl⟩ (Nat.le_of_ble_eq_true rfl) hb (kX4_isAngle hr)) (fun v1 _ => ?_)
  refine mg_if_eq (pc := 5) hC 12 dX4_address_5 (by decide) (fun _ => ?_) (fun _ => ?_)
  · refine mg_iconst (pc := 12) hC (-1 : Int32) dX4_address_12 (by decide) ?_
    exact mg_iret (pc := 13) hC rfl dX4_address_13
  · refine mg_iload_n (pc := 8) hC 2 dX4_address_8 rfl ?_
    refine mg_if_ge (pc := 9) hC 14 dX4_address_9 (by decide) (fun _ => ?_) (fun _ => ?_)
    · refine mg_aload_n (pc := 14) hC 0 dX4_address_14 rfl ?_
      refine mg_iload_n (pc := 15) hC 1 dX4_address_15 rfl ?_
      refine mg_recv (ci := 4) (fun hb => ?_)
      refine mg_cRI (pc := 16) (fun r hr => mg_VR (rest := []) (av := [.int x1]) (ci := 4) hC wdX4_isBack mw_535 dX4_address_16 rfl rfl ⟨Nat.le_of_ble_eq_true rfl, Nat.le_of_ble_eq_true rfl⟩ (Nat.le_of_ble_eq_true rfl) hb (kX4_isBack hr)) (fun v2 _ => ?_)
      refine mg_if_ne (pc := 19) hC 25 dX4_address_19 (by decide) (fun _ => ?_) (fun _ => ?_)
      · refine mg_bipush (pc := 22) hC (-2 : Int32) dX4_address_22 (by decide) ?_
        exact mg_iret (pc := 24) hC rfl dX4_address_24
      · refine mg_aload_n (pc := 25) hC 0 dX4_address_25 rfl ?_
        refine mg_getNN (pc := 26) (ci := 4) (k := 2) hC mi_4 rfl (by decide) mw_447 dX4_address_26 (fun v3 _ => ?_)
        refine mg_iload_n (pc := 29) hC 1 dX4_address_29 rfl ?_
        refine mg_lald (pc := 30) hC dX4_address_30 (fun v4 _ => ?_)
        refine mg_cRI (pc := 31) (fun r hr => mg_S (rest := []) hC wdX4_lengthOf mw_435 mw_434 dX4_address_31 rfl rfl ⟨Nat.le_of_ble_eq_true rfl, Nat.le_of_ble_eq_true rfl⟩ (Nat.le_of_ble_eq_true rfl) (kX4_lengthOf hr)) (fun v5 _ => ?_)
        refine mg_istore_n (pc := 34) hC [(3, .int v5), (0, .ref x0), (1, .int x1), (2, .int x2)] dX4_address_34 (by decide) rfl ?_
        refine mg_iconst (pc := 35) hC (1 : Int32) dX4_address_35 (by decide) ?_
        refine mg_istore (pc := 36) hC [(4, .int (1 : Int32)), (3, .int v5), (0, .ref x0), (1, .int x1), (2, .int x2)] dX4_address_36 (by decide) rfl ?_
        refine mg_iconst (pc := 38) hC (0 : Int32) dX4_address_38 (by decide) ?_
        refine mg_istore (pc := 39) hC [(5, .int (0 : Int32)), (4, .int (1 : Int32)), (3, .int v5), (0, .ref x0), (1, .int x1), (2, .int x2)] dX4_address_39 (by decide) rfl ?_
        exact mg_sub (pc := 41) [3, 4, 5, 2, 1, 0] (L' := [(0, .ref x0), (1, .int x1), (2, .int x2), (3, .int v5), (4, .int (1 : Int32)), (5, .int (0 : Int32))]) rfl (gX4_address_b41 hC _ _  _ _ _ _ _ _ _ _ _)
    · refine mg_iconst (pc := 12) hC (-1 : Int32) dX4_address_12 (by decide) ?_
      exact mg_iret (pc := 13) hC rfl dX4_address_13
theorem wdX4_address : mg_WdV 4 yX4_address cX4_address 7 (some .int) 2 := ⟨⟨mw_534, mw_2, by decide, by decide, by decide +kernel⟩, _, rfl, mw_532, mw_533⟩
end MG08
