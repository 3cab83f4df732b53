section MG03
variable {E : mg_P} {p : Program} {l : Launch} {e : Env} {C S : Nat} {s : State} {m : MethodId} {args : Array Value} {below : List Frame} {meth : Method} {c : Code}
def fX3_writeInner_b7 : Nat → Nat → Nat → Int32 → Int32 → mg_H → Option (Unit × mg_H)
  | 0, _, _, _, _, _ => none
  | n + 1, x0, x1, x2, x3, w => (mg_gI w 2 x1 3).bind fun v1 => if v1 ≤ x3 then (some ((), w)) else (mg_gN w 3 x0 2 fun v2 => (mg_len w v2).bind fun v3 => if v3 ≤ x3 then (some ((), w)) else (mg_gN w 3 x0 2 fun v4 => (mg_gI w 2 x1 1).bind fun v5 => mg_rc w 2 x1 ((fX2_letterOf x1 x2 v5 w).bind fun v6 => (mg_stI w v4 x3 v6).bind fun w7 => (mg_gI w7 2 x1 1).bind fun v8 => (fX3_twice x2 v8).bind fun v9 => fX3_writeInner_b7 n x0 x1 v9 (x3 + (1 : Int32)) w7)))
set_option maxHeartbeats 4000000 in
set_option maxRecDepth 100000 in
theorem gX3_writeInner_b7 (hC : mg_Cx E p s m args meth c cX3_writeInner 4 none RX3) (sz : Nat) : ∀ (n : Nat) (x0 : Nat) (x1 : Nat) (x2 : Int32) (x3 : Int32) (w : mg_H) (cells slots : Nat), mg_G E p l e ({ frames := 2, cells := C, slots := S, locals := 49 } : Room) s m args below meth c 4 (mg_oS mg_vV) (fX3_writeInner_b7 n x0 x1 x2 x3 w) w sz cells slots 7 [(0, .ref x0), (1, .ref x1), (2, .int x2), (3, .int x3)] [] := by
  intro n
  induction n with
  | zero => intros; exact fun o hf => by rw [fX3_writeInner_b7] at hf; cases hf
  | succ n ih =>
    intro x0 x1 x2 x3 w cells slots
    rw [fX3_writeInner_b7]
    refine mg_iload_n (pc := 7) hC 3 dX3_writeInner_7 rfl ?_
    refine mg_aload_n (pc := 8) hC 1 dX3_writeInner_8 rfl ?_
    refine mg_getI (pc := 9) (ci := 2) (k := 3) hC mi_2 rfl (by decide) mw_78 dX3_writeInner_9 (fun v1 _ => ?_)
    refine mg_icmp_ge (pc := 12) hC 54 dX3_writeInner_12 (by decide) (fun _ => ?_) (fun _ => ?_)
    · exact mg_vret (pc := 54) hC rfl dX3_writeInner_54
    · refine mg_iload_n (pc := 15) hC 3 dX3_writeInner_15 rfl ?_
      refine mg_aload_n (pc := 16) hC 0 dX3_writeInner_16 rfl ?_
      refine mg_getNN (pc := 17) (ci := 3) (k := 2) hC mi_3 rfl (by decide) mw_21 dX3_writeInner_17 (fun v2 _ => ?_)
      refine mg_alen (pc := 20) hC dX3_writeInner_20 (fun v3 _ => ?_)
      refine mg_icmp_ge (pc := 21) hC 54 dX3_writeInner_21 (by decide) (fun _ => ?_) (fun _ => ?_)
      · exact mg_vret (pc := 54) hC rfl dX3_writeInner_54
      · refine mg_aload_n (pc := 24) hC 0 dX3_writeInner_24 rfl ?_
        refine mg_getNN (pc := 25) (ci := 3) (k := 2) hC mi_3 rfl (by decide) mw_21 dX3_writeInner_25 (fun v4 _ => ?_)
        refine mg_iload_n (pc := 28) hC 3 dX3_writeInner_28 rfl ?_
        refine mg_aload_n (pc := 29) hC 1 dX3_writeInner_29 rfl ?_
        refine mg_iload_n (pc := 30) hC 2 dX3_writeInner_30 rfl ?_
        refine mg_aload_n (pc := 31) hC 1 dX3_writeInner_31 rfl ?_
        refine mg_getI (pc := 32) (ci := 2) (k := 1) hC mi_2 rfl (by decide) mw_73 dX3_writeInner_32 (fun v5 _ => ?_)
        refine mg_recv (ci := 2) (fun hb => ?_)
        refine mg_cRI (pc := 35) (fun r hr => mg_VR (rest := [.int x3, .ref v4]) (av := [.int x2, .int v5]) (ci := 2) hC wdX2_letterOf mw_131 dX3_writeInner_35 rfl rfl ⟨Nat.le_of_ble_eq_true rfl, Nat.le_of_ble_eq_true rfl⟩ (Nat.le_of_ble_eq_true rfl) hb (kX2_letterOf hr)) (fun v6 _ => ?_)
        refine mg_iast (pc := 38) hC dX3_writeInner_38 (fun w7 _ => ?_)
        refine mg_iload_n (pc := 39) hC 2 dX3_writeInner_39 rfl ?_
        refine mg_aload_n (pc := 40) hC 1 dX3_writeInner_40 rfl ?_
        refine mg_getI (pc := 41) (ci := 2) (k := 1) hC mi_2 rfl (by decide) mw_73 dX3_writeInner_41 (fun v8 _ => ?_)
        refine mg_cRI (pc := 44) (fun r hr => mg_S (rest := []) hC wdX3_twice mw_64 mw_151 dX3_writeInner_44 rfl rfl ⟨Nat.le_of_ble_eq_true rfl, Nat.le_of_ble_eq_true rfl⟩ (Nat.le_of_ble_eq_true rfl) (kX3_twice hr)) (fun v9 _ => ?_)
        refine mg_istore_n (pc := 47) hC [(2, .int v9), (0, .ref x0), (1, .ref x1), (3, .int x3)] dX3_writeInner_47 (by decide) rfl ?_
        refine mg_iinc (pc := 48) hC 3 (x3 + (1 : Int32)) [(3, .int (x3 + (1 : Int32))), (2, .int v9), (0, .ref x0), (1, .ref x1)] dX3_writeInner_48 rfl rfl (by decide) rfl ?_
        refine mg_goto (pc := 51) hC 7 dX3_writeInner_51 (by decide) ?_
        exact mg_sub (pc := 7) [2, 3, 1, 0] (L' := [(0, .ref x0), (1, .ref x1), (2, .int v9), (3, .int (x3 + (1 : Int32)))]) rfl (ih _ _ _ _ _ _ _)
def fX3_writeInner (x0 : Nat) (x1 : Nat) (w : mg_H) : Option (Unit × mg_H) := (mg_gI w 2 x1 0).bind fun v1 => fX3_writeInner_b7 mg_N x0 x1 v1 (0 : Int32) w
set_option maxHeartbeats 4000000 in
set_option maxRecDepth 100000 in
theorem kX3_writeInner {E : mg_P} {l : Launch} {x0 : Nat} {x1 : Nat} {w : mg_H} {sz : Nat} {o : Unit × mg_H} (hf : fX3_writeInner x0 x1 w = some o) : mg_C E l yX3_writeInner cX3_writeInner 4 none 2 49 [.ref x0, .ref x1] w sz ((mg_oS mg_vV) o) := by
  refine mg_meth (out := (mg_oS mg_vV)) (by decide) (Nat.le_of_ble_eq_true rfl) hf ?_
  intro p e C S s m below meth c hC hin
  have hC : mg_Cx E p s m _ meth c cX3_writeInner 4 none RX3 := hC
  unfold fX3_writeInner
  refine mg_sub (pc := 0) [0, 1] (L' := [(0, .ref x0), (1, .ref x1)]) rfl ?_
  refine mg_aload_n (pc := 0) hC 1 dX3_writeInner_0 rfl ?_
  refine mg_getI (pc := 1) (ci := 2) (k := 0) hC mi_2 rfl (by decide) mw_70 dX3_writeInner_1 (fun v1 _ => ?_)
  refine mg_istore_n (pc := 4) hC [(2, .int v1), (0, .ref x0), (1, .ref x1)] dX3_writeInner_4 (by decide) rfl ?_
  refine mg_iconst (pc := 5) hC (0 : Int32) dX3_writeInner_5 (by decide) ?_
  refine mg_istore_n (pc := 6) hC [(3, .int (0 : Int32)), (2, .int v1), (0, .ref x0), (1, .ref x1)] dX3_writeInner_6 (by decide) rfl ?_
  exact mg_sub (pc := 7) [2, 3, 1, 0] (L' := [(0, .ref x0), (1, .ref x1), (2, .int v1), (3, .int (0 : Int32))]) rfl (gX3_writeInner_b7 hC _  _ _ _ _ _ _ _ _)
theorem wdX3_writeInner : mg_WdV 3 yX3_writeInner cX3_writeInner 4 none 1 := ⟨⟨mw_150, mw_1, by decide, by decide, by decide +kernel⟩, _, rfl, mw_149, mw_p3⟩
def fX3_nextInAddress_b4 (w : mg_H) : Nat → Nat → Int32 → Int32 → Int32 → Option (Int32)
  | 0, _, _, _, _ => none
  | n + 1, x0, x1, x2, x3 => if x2 ≤ x3 then (some x2) else (mg_gN w 3 x0 2 fun v1 => (mg_len w v1).bind fun v2 => if v2 < x3 then (some x2) else (mg_gN w 3 x0 2 fun v3 => (mg_ldI w 0 v3 (x3 - (1 : Int32))).bind fun v4 => mg_gN w 3 x0 2 fun v5 => (mg_ldI w 0 v5 ((x3 - (1 : Int32)) - x1)).bind fun v6 => if v4 = v6 then (fX3_nextInAddress_b4 w n x0 x1 x2 (x3 + (1 : Int32))) else (some x3)))
set_option maxHeartbeats 4000000 in
set_option maxRecDepth 100000 in
theorem gX3_nextInAddress_b4 (hC : mg_Cx E p s m args meth c cX3_nextInAddress 4 (some .int) RX3) (w : mg_H) (sz : Nat) : ∀ (n : Nat) (x0 : Nat) (x1 : Int32) (x2 : Int32) (x3 : Int32) (cells slots : Nat), mg_G E p l e ({ frames := 0, cells := C, slots := S, locals := 0 } : Room) s m args below meth c 4 (mg_oR mg_vI w) (fX3_nextInAddress_b4 w n x0 x1 x2 x3) w sz cells slots 4 [(0, .ref x0), (1, .int x1), (2, .int x2), (3, .int x3)] [] := by
  intro n
  induction n with
  | zero => intros; exact fun o hf => by rw [fX3_nextInAddress_b4] at hf; cases hf
  | succ n ih =>
    intro x0 x1 x2 x3 cells slots
    rw [fX3_nextInAddress_b4]
    refine mg_iload_n (pc := 4) hC 3 dX3_nextInAddress_4 rfl ?_
    refine mg_iload_n (pc := 5) hC 2 dX3_nextInAddress_5 rfl ?_
    refine mg_icmp_ge (pc := 6) hC 47 dX3_nextInAddress_6 (by decide) (fun _ => ?_) (fun _ => ?_)
    · refine mg_iload_n (pc := 47) hC 2 dX3_nextInAddress_47 rfl ?_
      exact mg_iret (pc := 48) hC rfl dX3_nextInAddress_48
    · refine mg_iload_n (pc := 9) hC 3 dX3_nextInAddress_9 rfl ?_
      refine mg_aload_n (pc := 10) hC 0 dX3_nextInAddress_10 rfl ?_
      refine mg_getNN (pc := 11) (ci := 3) (k := 2) hC mi_3 rfl (by decide) mw_21 dX3_nextInAddress_11 (fun v1 _ => ?_)
      refine mg_alen (pc := 14) hC dX3_nextInAddress_14 (fun v2 _ => ?_)
      refine mg_icmp_gt (pc := 15) hC 47 dX3_nextInAddress_15 (by decide) (fun _ => ?_) (fun _ => ?_)
      · refine mg_iload_n (pc := 47) hC 2 dX3_nextInAddress_47 rfl ?_
        exact mg_iret (pc := 48) hC rfl dX3_nextInAddress_48
      · refine mg_aload_n (pc := 18) hC 0 dX3_nextInAddress_18 rfl ?_
        refine mg_getNN (pc := 19) (ci := 3) (k := 2) hC mi_3 rfl (by decide) mw_21 dX3_nextInAddress_19 (fun v3 _ => ?_)
        refine mg_iload_n (pc := 22) hC 3 dX3_nextInAddress_22 rfl ?_
        refine mg_iconst (pc := 23) hC (1 : Int32) dX3_nextInAddress_23 (by decide) ?_
        refine mg_isub (pc := 24) hC dX3_nextInAddress_24 ?_
        refine mg_iald (pc := 25) hC dX3_nextInAddress_25 (fun v4 _ => ?_)
        refine mg_aload_n (pc := 26) hC 0 dX3_nextInAddress_26 rfl ?_
        refine mg_getNN (pc := 27) (ci := 3) (k := 2) hC mi_3 rfl (by decide) mw_21 dX3_nextInAddress_27 (fun v5 _ => ?_)
        refine mg_iload_n (pc := 30) hC 3 dX3_nextInAddress_30 rfl ?_
        refine mg_iconst (pc := 31) hC (1 : Int32) dX3_nextInAddress_31 (by decide) ?_
        refine mg_isub (pc := 32) hC dX3_nextInAddress_32 ?_
        refine mg_iload_n (pc := 33) hC 1 dX3_nextInAddress_33 rfl ?_
        refine mg_isub (pc := 34) hC dX3_nextInAddress_34 ?_
        refine mg_iald (pc := 35) hC dX3_nextInAddress_35 (fun v6 _ => ?_)
        refine mg_icmp_eq (pc := 36) hC 41 dX3_nextInAddress_36 (by decide) (fun _ => ?_) (fun _ => ?_)
        · refine mg_iinc (pc := 41) hC 3 (x3 + (1 : Int32)) [(3, .int (x3 + (1 : Int32))), (0, .ref x0), (1, .int x1), (2, .int x2)] dX3_nextInAddress_41 rfl rfl (by decide) rfl ?_
          refine mg_goto (pc := 44) hC 4 dX3_nextInAddress_44 (by decide) ?_
          exact mg_sub (pc := 4) [1, 2, 3, 0] (L' := [(0, .ref x0), (1, .int x1), (2, .int x2), (3, .int (x3 + (1 : Int32)))]) rfl (ih _ _ _ _ _ _)
        · refine mg_iload_n (pc := 39) hC 3 dX3_nextInAddress_39 rfl ?_
          exact mg_iret (pc := 40) hC rfl dX3_nextInAddress_40
def fX3_nextInAddress (x0 : Nat) (x1 : Int32) (x2 : Int32) (w : mg_H) : Option (Int32) := fX3_nextInAddress_b4 w mg_N x0 x1 x2 (x1 + (1 : Int32))
set_option maxHeartbeats 4000000 in
set_option maxRecDepth 100000 in
theorem kX3_nextInAddress {E : mg_P} {l : Launch} {x0 : Nat} {x1 : Int32} {x2 : Int32} {w : mg_H} {sz : Nat} {o : Int32} (hf : fX3_nextInAddress x0 x1 x2 w = some o) : mg_C E l yX3_nextInAddress cX3_nextInAddress 4 (some .int) 0 0 [.ref x0, .int x1, .int x2] w sz ((mg_oR mg_vI w) o) := by
  refine mg_meth (out := (mg_oR mg_vI w)) (by decide) (Nat.le_of_ble_eq_true rfl) hf ?_
  intro p e C S s m below meth c hC hin
  have hC : mg_Cx E p s m _ meth c cX3_nextInAddress 4 (some .int) RX3 := hC
  unfold fX3_nextInAddress
  refine mg_sub (pc := 0) [0, 1, 2] (L' := [(0, .ref x0), (1, .int x1), (2, .int x2)]) rfl ?_
  refine mg_iload_n (pc := 0) hC 1 dX3_nextInAddress_0 rfl ?_
  refine mg_iconst (pc := 1) hC (1 : Int32) dX3_nextInAddress_1 (by decide) ?_
  refine mg_iadd (pc := 2) hC dX3_nextInAddress_2 ?_
  refine mg_istore_n (pc := 3) hC [(3, .int (x1 + (1 : Int32))), (0, .ref x0), (1, .int x1), (2, .int x2)] dX3_nextInAddress_3 (by decide) rfl ?_
  exact mg_sub (pc := 4) [1, 2, 3, 0] (L' := [(0, .ref x0), (1, .int x1), (2, .int x2), (3, .int (x1 + (1 : Int32)))]) rfl (gX3_nextInAddress_b4 hC _ _  _ _ _ _ _ _ _)
theorem wdX3_nextInAddress : mg_WdV 3 yX3_nextInAddress cX3_nextInAddress 4 (some .int) 2 := ⟨⟨mw_155, mw_1, by decide, by decide, by decide +kernel⟩, _, rfl, mw_154, mw_p4⟩
def fX3_address_b37 : Nat → Nat → Int32 → Nat → Int32 → Int32 → mg_H → Option (Int32 × mg_H)
  | 0, _, _, _, _, _, _ => none
  | n + 1, x0, x2, x3, x4, x5, w => if x2 ≤ x5 then (some (x4, w)) else ((mg_gI w 2 x3 3).bind fun v1 => if x4 < v1 then ((mg_gI w 2 x3 3).bind fun v2 => mg_rc w 3 x0 ((fX3_nextInAddress x0 x4 v2 w).bind fun v3 => fX3_address_b37 n x0 x2 x3 v3 (x5 + (1 : Int32)) w)) else (some ((-4 : Int32), w)))
set_option maxHeartbeats 4000000 in
set_option maxRecDepth 100000 in
theorem gX3_address_b37 (hC : mg_Cx E p s m args meth c cX3_address 6 (some .int) RX3) (sz : Nat) : ∀ (n : Nat) (x0 : Nat) (x2 : Int32) (x3 : Nat) (x4 : Int32) (x5 : Int32) (w : mg_H) (cells slots : Nat), mg_G E p l e ({ frames := 3, cells := C, slots := S, locals := 72 } : Room) s m args below meth c 6 (mg_oS mg_vI) (fX3_address_b37 n x0 x2 x3 x4 x5 w) w sz cells slots 37 [(0, .ref x0), (2, .int x2), (3, .ref x3), (4, .int x4), (5, .int x5)] [] := by
  intro n
  induction n with
  | zero => intros; exact fun o hf => by rw [fX3_address_b37] at hf; cases hf
  | succ n ih =>
    intro x0 x2 x3 x4 x5 w cells slots
    rw [fX3_address_b37]
    refine mg_iload (pc := 37) hC 4 dX3_address_37 rfl ?_
    refine mg_iload_n (pc := 39) hC 1 dX3_address_39 rfl ?_
    refine mg_icmp_ge (pc := 40) hC 73 dX3_address_40 (by decide) (fun _ => ?_) (fun _ => ?_)
    · refine mg_iload (pc := 73) hC 3 dX3_address_73 rfl ?_
      exact mg_iret (pc := 75) hC rfl dX3_address_75
    · refine mg_iload (pc := 43) hC 3 dX3_address_43 rfl ?_
      refine mg_aload_n (pc := 45) hC 2 dX3_address_45 rfl ?_
      refine mg_getI (pc := 46) (ci := 2) (k := 3) hC mi_2 rfl (by decide) mw_78 dX3_address_46 (fun v1 _ => ?_)
      refine mg_icmp_lt (pc := 49) hC 55 dX3_address_49 (by decide) (fun _ => ?_) (fun _ => ?_)
      · refine mg_aload_n (pc := 55) hC 0 dX3_address_55 rfl ?_
        refine mg_iload (pc := 56) hC 3 dX3_address_56 rfl ?_
        refine mg_aload_n (pc := 58) hC 2 dX3_address_58 rfl ?_
        refine mg_getI (pc := 59) (ci := 2) (k := 3) hC mi_2 rfl (by decide) mw_78 dX3_address_59 (fun v2 _ => ?_)
        refine mg_recv (ci := 3) (fun hb => ?_)
        refine mg_cRI (pc := 62) (fun r hr => mg_VR (rest := []) (av := [.int x4, .int v2]) (ci := 3) hC wdX3_nextInAddress mw_152 dX3_address_62 rfl rfl ⟨Nat.le_of_ble_eq_true rfl, Nat.le_of_ble_eq_true rfl⟩ (Nat.le_of_ble_eq_true rfl) hb (kX3_nextInAddress hr)) (fun v3 _ => ?_)
        refine mg_istore (pc := 65) hC [(4, .int v3), (0, .ref x0), (2, .int x2), (3, .ref x3), (5, .int x5)] dX3_address_65 (by decide) rfl ?_
        refine mg_iinc (pc := 67) hC 4 (x5 + (1 : Int32)) [(5, .int (x5 + (1 : Int32))), (4, .int v3), (0, .ref x0), (2, .int x2), (3, .ref x3)] dX3_address_67 rfl rfl (by decide) rfl ?_
        refine mg_goto (pc := 70) hC 37 dX3_address_70 (by decide) ?_
        exact mg_sub (pc := 37) [2, 3, 4, 1, 0] (L' := [(0, .ref x0), (2, .int x2), (3, .ref x3), (4, .int v3), (5, .int (x5 + (1 : Int32)))]) rfl (ih _ _ _ _ _ _ _ _)
      · refine mg_bipush (pc := 52) hC (-4 : Int32) dX3_address_52 (by decide) ?_
        exact mg_iret (pc := 54) hC rfl dX3_address_54
def fX3_address (x0 : Nat) (x1 : Int32) (x2 : Int32) (w : mg_H) : Option (Int32 × mg_H) := mg_rc w 3 x0 ((fX3_turnAt x0 x1 w).bind fun v1 => mg_if0 v1 (some ((-1 : Int32), w)) (fun a2 => if 0 ≤ x2 then (mg_rc w 2 a2 ((fX2_comesBack a2 w).bind fun v3 => if v3 = 0 then (some ((-2 : Int32), w)) else (mg_rc w 3 x0 (mg_bS (fX3_writeInner x0 a2 w) fun _ w5 => fX3_address_b37 mg_N x0 x2 a2 (1 : Int32) (0 : Int32) w5)))) else (some ((-1 : Int32), w))))
set_option maxHeartbeats 4000000 in
set_option maxRecDepth 100000 in
theorem kX3_address {E : mg_P} {l : Launch} {x0 : Nat} {x1 : Int32} {x2 : Int32} {w : mg_H} {sz : Nat} {o : Int32 × mg_H} (hf : fX3_address x0 x1 x2 w = some o) : mg_C E l yX3_address cX3_address 6 (some .int) 3 72 [.ref x0, .int x1, .int x2] w sz ((mg_oS mg_vI) o) := by
  refine mg_meth (out := (mg_oS mg_vI)) (by decide) (Nat.le_of_ble_eq_true rfl) hf ?_
  intro p e C S s m below meth c hC hin
  have hC : mg_Cx E p s m _ meth c cX3_address 6 (some .int) RX3 := hC
  unfold fX3_address
  refine mg_sub (pc := 0) [0, 1, 2] (L' := [(0, .ref x0), (1, .int x1), (2, .int x2)]) rfl ?_
  refine mg_aload_n (pc := 0) hC 0 dX3_address_0 rfl ?_
  refine mg_iload_n (pc := 1) hC 1 dX3_address_1 rfl ?_
  refine mg_recv (ci := 3) (fun hb => ?_)
  refine mg_cRQ (pc := 2) (fun r hr => mg_VR (rest := []) (av := [.int x1]) (ci := 3) hC wdX3_turnAt mw_96 dX3_address_2 rfl rfl ⟨Nat.le_of_ble_eq_true rfl, Nat.le_of_ble_eq_true rfl⟩ (Nat.le_of_ble_eq_true rfl) hb (kX3_turnAt hr)) (fun v1 _ => ?_)
  refine mg_astore_nQ (pc := 5) hC [(3, va_rf v1), (0, .ref x0), (1, .int x1), (2, .int x2)] dX3_address_5 (by decide) rfl ?_
  refine mg_aload_nQ (pc := 6) hC 0 dX3_address_6 rfl ?_
  refine mg_ifnull (pc := 7) hC 14 dX3_address_7 (by decide) (fun hq => ?_) (fun a2 hq => ?_)
  · subst hq
    refine mg_iconst (pc := 14) hC (-1 : Int32) dX3_address_14 (by decide) ?_
    exact mg_iret (pc := 15) hC rfl dX3_address_15
  · subst hq
    refine mg_iload_n (pc := 10) hC 3 dX3_address_10 rfl ?_
    refine mg_if_ge (pc := 11) hC 16 dX3_address_11 (by decide) (fun _ => ?_) (fun _ => ?_)
    · refine mg_aload_n (pc := 16) hC 0 dX3_address_16 rfl ?_
      refine mg_recv (ci := 2) (fun hb => ?_)
      refine mg_cRI (pc := 17) (fun r hr => mg_VR (rest := []) (av := []) (ci := 2) hC wdX2_comesBack mw_143 dX3_address_17 rfl rfl ⟨Nat.le_of_ble_eq_true rfl, Nat.le_of_ble_eq_true rfl⟩ (Nat.le_of_ble_eq_true rfl) hb (kX2_comesBack hr)) (fun v3 _ => ?_)
      refine mg_if_ne (pc := 20) hC 26 dX3_address_20 (by decide) (fun _ => ?_) (fun _ => ?_)
      · refine mg_bipush (pc := 23) hC (-2 : Int32) dX3_address_23 (by decide) ?_
        exact mg_iret (pc := 25) hC rfl dX3_address_25
      · refine mg_aload_n (pc := 26) hC 1 dX3_address_26 rfl ?_
        refine mg_aload_n (pc := 27) hC 0 dX3_address_27 rfl ?_
        refine mg_recv (ci := 3) (fun hb => ?_)
        refine mg_cSV (pc := 28) (fun r hr => mg_VR (rest := []) (av := [.ref a2]) (ci := 3) hC wdX3_writeInner mw_147 dX3_address_28 rfl rfl ⟨Nat.le_of_ble_eq_true rfl, Nat.le_of_ble_eq_true rfl⟩ (Nat.le_of_ble_eq_true rfl) hb (kX3_writeInner hr)) (fun _ w5 _ => ?_)
        refine mg_iconst (pc := 31) hC (1 : Int32) dX3_address_31 (by decide) ?_
        refine mg_istore (pc := 32) hC [(4, .int (1 : Int32)), (3, .ref a2), (0, .ref x0), (1, .int x1), (2, .int x2)] dX3_address_32 (by decide) rfl ?_
        refine mg_iconst (pc := 34) hC (0 : Int32) dX3_address_34 (by decide) ?_
        refine mg_istore (pc := 35) hC [(5, .int (0 : Int32)), (4, .int (1 : Int32)), (3, .ref a2), (0, .ref x0), (1, .int x1), (2, .int x2)] dX3_address_35 (by decide) rfl ?_
        exact mg_sub (pc := 37) [3, 5, 2, 1, 0] (L' := [(0, .ref x0), (2, .int x2), (3, .ref a2), (4, .int (1 : Int32)), (5, .int (0 : Int32))]) rfl (gX3_address_b37 hC _  _ _ _ _ _ _ _ _ _)
    · refine mg_iconst (pc := 14) hC (-1 : Int32) dX3_address_14 (by decide) ?_
      exact mg_iret (pc := 15) hC rfl dX3_address_15
theorem wdX3_address : mg_WdV 3 yX3_address cX3_address 6 (some .int) 2 := ⟨⟨mw_142, mw_1, by decide, by decide, by decide +kernel⟩, _, rfl, mw_140, mw_141⟩
def fX3_answer (x0 : Int32) : Option (Int32) := if x0 = 0 then (some (0 : Int32)) else (some (1 : Int32))
set_option maxHeartbeats 4000000 in
set_option maxRecDepth 100000 in
theorem kX3_answer {E : mg_P} {l : Launch} {x0 : Int32} {w : mg_H} {sz : Nat} {o : Int32} (hf : fX3_answer x0 = some o) : mg_C E l yX3_answer cX3_answer 1 (some .int) 0 0 [.int x0] w sz ((mg_oR mg_vI w) o) := by
  refine mg_meth (out := (mg_oR mg_vI w)) (by decide) (Nat.le_of_ble_eq_true rfl) hf ?_
  intro p e C S s m below meth c hC hin
  have hC : mg_Cx E p s m _ meth c cX3_answer 1 (some .int) RX3 := hC
  unfold fX3_answer
  refine mg_sub (pc := 0) [0] (L' := [(0, .int x0)]) rfl ?_
  refine mg_iload_n (pc := 0) hC 0 dX3_answer_0 rfl ?_
  refine mg_if_eq (pc := 1) hC 8 dX3_answer_1 (by decide) (fun _ => ?_) (fun _ => ?_)
  · refine mg_iconst (pc := 8) hC (0 : Int32) dX3_answer_8 (by decide) ?_
    exact mg_iret (pc := 9) hC rfl dX3_answer_9
  · refine mg_iconst (pc := 4) hC (1 : Int32) dX3_answer_4 (by decide) ?_
    refine mg_goto (pc := 5) hC 9 dX3_answer_5 (by decide) ?_
    exact mg_iret (pc := 9) hC rfl dX3_answer_9
theorem wdX3_answer : mg_Wd yX3_answer cX3_answer 1 (some .int) 1 := ⟨mw_166, mw_1, by decide, by decide, by decide +kernel⟩
def fX3_cross_b98 (w : mg_H) (s0 : Int32) : Option (Int32) := (fX3_answer s0).bind fun v1 => some v1
set_option maxHeartbeats 4000000 in
set_option maxRecDepth 100000 in
theorem gX3_cross_b98 (hC : mg_Cx E p s m args meth c cX3_cross 11 (some .int) RX3) (w : mg_H) (sz : Nat) (s0 : Int32) (cells slots : Nat) : mg_G E p l e ({ frames := 2, cells := C, slots := S, locals := 44 } : Room) s m args below meth c 11 (mg_oR mg_vI w) (fX3_cross_b98 w s0) w sz cells slots 98 [] [.int s0] := by
  unfold fX3_cross_b98
  refine mg_cRI (pc := 98) (fun r hr => mg_S (rest := []) hC wdX3_answer mw_165 mw_164 dX3_cross_98 rfl rfl ⟨Nat.le_of_ble_eq_true rfl, Nat.le_of_ble_eq_true rfl⟩ (Nat.le_of_ble_eq_true rfl) (kX3_answer hr)) (fun v1 _ => ?_)
  exact mg_iret (pc := 101) hC rfl dX3_cross_101
def fX3_cross (x0 : Nat) (x1 : Int32) (x2 : Int32) (x3 : Int32) (x4 : Int32) (w : mg_H) : Option (Int32) := mg_rc w 3 x0 ((fX3_turnAt x0 x1 w).bind fun v1 => mg_rc w 3 x0 ((fX3_turnAt x0 x2 w).bind fun v2 => mg_rc w 3 x0 ((fX3_turnAt x0 x3 w).bind fun v3 => mg_rc w 3 x0 ((fX3_turnAt x0 x4 w).bind fun v4 => mg_if0 v1 (some (-1 : Int32)) (fun a5 => mg_if0 v2 (some (-1 : Int32)) (fun a6 => mg_if0 v3 (some (-1 : Int32)) (fun a7 => mg_if0 v4 (some (-1 : Int32)) (fun a8 => mg_rc w 2 a7 ((fX2_against a7 a5 w).bind fun v9 => mg_rc w 2 a7 ((fX2_against a7 a6 w).bind fun v10 => mg_rc w 2 a8 ((fX2_against a8 a5 w).bind fun v11 => mg_rc w 2 a8 ((fX2_against a8 a6 w).bind fun v12 => if 0 ≤ ((v9 * v10) * (v11 * v12)) then (fX3_cross_b98 w (0 : Int32)) else (fX3_cross_b98 w (1 : Int32))))))))))))))
set_option maxHeartbeats 4000000 in
set_option maxRecDepth 100000 in
theorem kX3_cross {E : mg_P} {l : Launch} {x0 : Nat} {x1 : Int32} {x2 : Int32} {x3 : Int32} {x4 : Int32} {w : mg_H} {sz : Nat} {o : Int32} (hf : fX3_cross x0 x1 x2 x3 x4 w = some o) : mg_C E l yX3_cross cX3_cross 11 (some .int) 2 44 [.ref x0, .int x1, .int x2, .int x3, .int x4] w sz ((mg_oR mg_vI w) o) := by
  refine mg_meth (out := (mg_oR mg_vI w)) (by decide) (Nat.le_of_ble_eq_true rfl) hf ?_
  intro p e C S s m below meth c hC hin
  have hC : mg_Cx E p s m _ meth c cX3_cross 11 (some .int) RX3 := hC
  unfold fX3_cross
  refine mg_sub (pc := 0) [0, 1, 2, 3, 4] (L' := [(0, .ref x0), (1, .int x1), (2, .int x2), (3, .int x3), (4, .int x4)]) rfl ?_
  refine mg_aload_n (pc := 0) hC 0 dX3_cross_0 rfl ?_
  refine mg_iload_n (pc := 1) hC 1 dX3_cross_1 rfl ?_
  refine mg_recv (ci := 3) (fun hb => ?_)
  refine mg_cRQ (pc := 2) (fun r hr => mg_VR (rest := []) (av := [.int x1]) (ci := 3) hC wdX3_turnAt mw_96 dX3_cross_2 rfl rfl ⟨Nat.le_of_ble_eq_true rfl, Nat.le_of_ble_eq_true rfl⟩ (Nat.le_of_ble_eq_true rfl) hb (kX3_turnAt hr)) (fun v1 _ => ?_)
  refine mg_astoreQ (pc := 5) hC [(5, va_rf v1), (0, .ref x0), (1, .int x1), (2, .int x2), (3, .int x3), (4, .int x4)] dX3_cross_5 (by decide) rfl ?_
  refine mg_aload_n (pc := 7) hC 1 dX3_cross_7 rfl ?_
  refine mg_iload_n (pc := 8) hC 3 dX3_cross_8 rfl ?_
  refine mg_recv (ci := 3) (fun hb => ?_)
  refine mg_cRQ (pc := 9) (fun r hr => mg_VR (rest := []) (av := [.int x2]) (ci := 3) hC wdX3_turnAt mw_96 dX3_cross_9 rfl rfl ⟨Nat.le_of_ble_eq_true rfl, Nat.le_of_ble_eq_true rfl⟩ (Nat.le_of_ble_eq_true rfl) hb (kX3_turnAt hr)) (fun v2 _ => ?_)
  refine mg_astoreQ (pc := 12) hC [(6, va_rf v2), (5, va_rf v1), (0, .ref x0), (1, .int x1), (2, .int x2), (3, .int x3), (4, .int x4)] dX3_cross_12 (by decide) (by cases v1 <;> rfl) ?_
  refine mg_aload_n (pc := 14) hC 2 dX3_cross_14 rfl ?_
  refine mg_iload_n (pc := 15) hC 5 dX3_cross_15 rfl ?_
  refine mg_recv (ci := 3) (fun hb => ?_)
  refine mg_cRQ (pc := 16) (fun r hr => mg_VR (rest := []) (av := [.int x3]) (ci := 3) hC wdX3_turnAt mw_96 dX3_cross_16 rfl rfl ⟨Nat.le_of_ble_eq_true rfl, Nat.le_of_ble_eq_true rfl⟩ (Nat.le_of_ble_eq_true rfl) hb (kX3_turnAt hr)) (fun v3 _ => ?_)
  refine mg_astoreQ (pc := 19) hC [(7, va_rf v3), (6, va_rf v2), (5, va_rf v1), (0, .ref x0), (1, .int x1), (2, .int x2), (3, .int x3), (4, .int x4)] dX3_cross_19 (by decide) (by cases v2 <;> rfl) ?_
  refine mg_aload_n (pc := 21) hC 3 dX3_cross_21 rfl ?_
  refine mg_iload (pc := 22) hC 7 dX3_cross_22 rfl ?_
  refine mg_recv (ci := 3) (fun hb => ?_)
  refine mg_cRQ (pc := 24) (fun r hr => mg_VR (rest := []) (av := [.int x4]) (ci := 3) hC wdX3_turnAt mw_96 dX3_cross_24 rfl rfl ⟨Nat.le_of_ble_eq_true rfl, Nat.le_of_ble_eq_true rfl⟩ (Nat.le_of_ble_eq_true rfl) hb (kX3_turnAt hr)) (fun v4 _ => ?_)
  refine mg_astoreQ (pc := 27) hC [(8, va_rf v4), (7, va_rf v3), (6, va_rf v2), (5, va_rf v1), (0, .ref x0), (1, .int x1), (2, .int x2), (3, .int x3), (4, .int x4)] dX3_cross_27 (by decide) (by cases v3 <;> rfl) ?_
  refine mg_aloadQ (pc := 29) hC 3 dX3_cross_29 rfl ?_
  refine mg_ifnull (pc := 31) hC 49 dX3_cross_31 (by decide) (fun hq => ?_) (fun a5 hq => ?_)
  · subst hq
    refine mg_iconst (pc := 49) hC (-1 : Int32) dX3_cross_49 (by decide) ?_
    exact mg_iret (pc := 50) hC rfl dX3_cross_50
  · subst hq
    refine mg_aloadQ (pc := 34) hC 2 dX3_cross_34 rfl ?_
    refine mg_ifnull (pc := 36) hC 49 dX3_cross_36 (by decide) (fun hq => ?_) (fun a6 hq => ?_)
    · subst hq
      refine mg_iconst (pc := 49) hC (-1 : Int32) dX3_cross_49 (by decide) ?_
      exact mg_iret (pc := 50) hC rfl dX3_cross_50
    · subst hq
      refine mg_aloadQ (pc := 39) hC 1 dX3_cross_39 rfl ?_
      refine mg_ifnull (pc := 41) hC 49 dX3_cross_41 (by decide) (fun hq => ?_) (fun a7 hq => ?_)
      · subst hq
        refine mg_iconst (pc := 49) hC (-1 : Int32) dX3_cross_49 (by decide) ?_
        exact mg_iret (pc := 50) hC rfl dX3_cross_50
      · subst hq
        refine mg_aloadQ (pc := 44) hC 0 dX3_cross_44 rfl ?_
        refine mg_ifnonnull (pc := 46) hC 51 dX3_cross_46 (by decide) (fun hq => ?_) (fun a8 hq => ?_)
        · subst hq
          refine mg_iconst (pc := 49) hC (-1 : Int32) dX3_cross_49 (by decide) ?_
          exact mg_iret (pc := 50) hC rfl dX3_cross_50
        · subst hq
          refine mg_aload (pc := 51) hC 1 dX3_cross_51 rfl ?_
          refine mg_aload (pc := 53) hC 3 dX3_cross_53 rfl ?_
          refine mg_recv (ci := 2) (fun hb => ?_)
          refine mg_cRI (pc := 55) (fun r hr => mg_VR (rest := []) (av := [.ref a5]) (ci := 2) hC wdX2_against mw_160 dX3_cross_55 rfl rfl ⟨Nat.le_of_ble_eq_true rfl, Nat.le_of_ble_eq_true rfl⟩ (Nat.le_of_ble_eq_true rfl) hb (kX2_against hr)) (fun v9 _ => ?_)
          refine mg_aload (pc := 58) hC 1 dX3_cross_58 rfl ?_
          refine mg_aload (pc := 60) hC 2 dX3_cross_60 rfl ?_
          refine mg_recv (ci := 2) (fun hb => ?_)
          refine mg_cRI (pc := 62) (fun r hr => mg_VR (rest := [.int v9]) (av := [.ref a6]) (ci := 2) hC wdX2_against mw_160 dX3_cross_62 rfl rfl ⟨Nat.le_of_ble_eq_true rfl, Nat.le_of_ble_eq_true rfl⟩ (Nat.le_of_ble_eq_true rfl) hb (kX2_against hr)) (fun v10 _ => ?_)
          refine mg_imul (pc := 65) hC dX3_cross_65 ?_
          refine mg_istore (pc := 66) hC [(9, .int (v9 * v10)), (8, .ref a8), (7, .ref a7), (6, .ref a6), (5, .ref a5), (0, .ref x0), (1, .int x1), (2, .int x2), (3, .int x3), (4, .int x4)] dX3_cross_66 (by decide) rfl ?_
          refine mg_aload (pc := 68) hC 1 dX3_cross_68 rfl ?_
          refine mg_aload (pc := 70) hC 4 dX3_cross_70 rfl ?_
          refine mg_recv (ci := 2) (fun hb => ?_)
          refine mg_cRI (pc := 72) (fun r hr => mg_VR (rest := []) (av := [.ref a5]) (ci := 2) hC wdX2_against mw_160 dX3_cross_72 rfl rfl ⟨Nat.le_of_ble_eq_true rfl, Nat.le_of_ble_eq_true rfl⟩ (Nat.le_of_ble_eq_true rfl) hb (kX2_against hr)) (fun v11 _ => ?_)
          refine mg_aload (pc := 75) hC 1 dX3_cross_75 rfl ?_
          refine mg_aload (pc := 77) hC 3 dX3_cross_77 rfl ?_
          refine mg_recv (ci := 2) (fun hb => ?_)
          refine mg_cRI (pc := 79) (fun r hr => mg_VR (rest := [.int v11]) (av := [.ref a6]) (ci := 2) hC wdX2_against mw_160 dX3_cross_79 rfl rfl ⟨Nat.le_of_ble_eq_true rfl, Nat.le_of_ble_eq_true rfl⟩ (Nat.le_of_ble_eq_true rfl) hb (kX2_against hr)) (fun v12 _ => ?_)
          refine mg_imul (pc := 82) hC dX3_cross_82 ?_
          refine mg_istore (pc := 83) hC [(10, .int (v11 * v12)), (9, .int (v9 * v10)), (8, .ref a8), (7, .ref a7), (6, .ref a6), (5, .ref a5), (0, .ref x0), (1, .int x1), (2, .int x2), (3, .int x3), (4, .int x4)] dX3_cross_83 (by decide) rfl ?_
          refine mg_iload (pc := 85) hC 1 dX3_cross_85 rfl ?_
          refine mg_iload (pc := 87) hC 0 dX3_cross_87 rfl ?_
          refine mg_imul (pc := 89) hC dX3_cross_89 ?_
          refine mg_if_ge (pc := 90) hC 97 dX3_cross_90 (by decide) (fun _ => ?_) (fun _ => ?_)
          · refine mg_iconst (pc := 97) hC (0 : Int32) dX3_cross_97 (by decide) ?_
            exact mg_sub (pc := 98) [] (L' := []) rfl (gX3_cross_b98 hC _ _  _ _ _)
          · refine mg_iconst (pc := 93) hC (1 : Int32) dX3_cross_93 (by decide) ?_
            refine mg_goto (pc := 94) hC 98 dX3_cross_94 (by decide) ?_
            exact mg_sub (pc := 98) [] (L' := []) rfl (gX3_cross_b98 hC _ _  _ _ _)
theorem wdX3_cross : mg_WdV 3 yX3_cross cX3_cross 11 (some .int) 4 := ⟨⟨mw_159, mw_1, by decide, by decide, by decide +kernel⟩, _, rfl, mw_157, mw_158⟩
def fX3_agree (x0 : Int32) (x1 : Int32) : Option (Int32) := if x0 = x1 then (some (1 : Int32)) else (if x0 = (2 : Int32) then (some (1 : Int32)) else (if x1 = (2 : Int32) then (some (1 : Int32)) else (some (0 : Int32))))
set_option maxHeartbeats 4000000 in
set_option maxRecDepth 100000 in
theorem kX3_agree {E : mg_P} {l : Launch} {x0 : Int32} {x1 : Int32} {w : mg_H} {sz : Nat} {o : Int32} (hf : fX3_agree x0 x1 = some o) : mg_C E l yX3_agree cX3_agree 2 (some .boolean) 0 0 [.int x0, .int x1] w sz ((mg_oR mg_vI w) o) := by
  refine mg_meth (out := (mg_oR mg_vI w)) (by decide) (Nat.le_of_ble_eq_true rfl) hf ?_
  intro p e C S s m below meth c hC hin
  have hC : mg_Cx E p s m _ meth c cX3_agree 2 (some .boolean) RX3 := hC
  unfold fX3_agree
  refine mg_sub (pc := 0) [0, 1] (L' := [(0, .int x0), (1, .int x1)]) rfl ?_
  refine mg_iload_n (pc := 0) hC 0 dX3_agree_0 rfl ?_
  refine mg_iload_n (pc := 1) hC 1 dX3_agree_1 rfl ?_
  refine mg_icmp_eq (pc := 2) hC 15 dX3_agree_2 (by decide) (fun _ => ?_) (fun _ => ?_)
  · refine mg_iconst (pc := 15) hC (1 : Int32) dX3_agree_15 (by decide) ?_
    refine mg_goto (pc := 16) hC 20 dX3_agree_16 (by decide) ?_
    exact mg_zretC (pc := 20) hC (by decide) rfl dX3_agree_20
  · refine mg_iload_n (pc := 5) hC 0 dX3_agree_5 rfl ?_
    refine mg_iconst (pc := 6) hC (2 : Int32) dX3_agree_6 (by decide) ?_
    refine mg_icmp_eq (pc := 7) hC 15 dX3_agree_7 (by decide) (fun _ => ?_) (fun _ => ?_)
    · refine mg_iconst (pc := 15) hC (1 : Int32) dX3_agree_15 (by decide) ?_
      refine mg_goto (pc := 16) hC 20 dX3_agree_16 (by decide) ?_
      exact mg_zretC (pc := 20) hC (by decide) rfl dX3_agree_20
    · refine mg_iload_n (pc := 10) hC 1 dX3_agree_10 rfl ?_
      refine mg_iconst (pc := 11) hC (2 : Int32) dX3_agree_11 (by decide) ?_
      refine mg_icmp_ne (pc := 12) hC 19 dX3_agree_12 (by decide) (fun _ => ?_) (fun _ => ?_)
      · refine mg_iconst (pc := 15) hC (1 : Int32) dX3_agree_15 (by decide) ?_
        refine mg_goto (pc := 16) hC 20 dX3_agree_16 (by decide) ?_
        exact mg_zretC (pc := 20) hC (by decide) rfl dX3_agree_20
      · refine mg_iconst (pc := 19) hC (0 : Int32) dX3_agree_19 (by decide) ?_
        exact mg_zretC (pc := 20) hC (by decide) rfl dX3_agree_20
theorem wdX3_agree : mg_Wd yX3_agree cX3_agree 2 (some .boolean) 2 := ⟨mw_179, mw_1, by decide, by decide, by decide +kernel⟩
def fX3_agreeAhead_b15 (w : mg_H) : Nat → Nat → Nat → Nat → Int32 → Int32 → Int32 → Int32 → Option (Int32)
  | 0, _, _, _, _, _, _, _ => none
  | n + 1, x0, x1, x2, x3, x4, x5, x6 => if x3 ≤ x6 then (some (1 : Int32)) else ((mg_gI w 2 x0 1).bind fun v1 => mg_rc w 2 x2 ((fX2_letterOf x2 x4 v1 w).bind fun v2 => (mg_gI w 2 x1 1).bind fun v3 => mg_rc w 2 x2 ((fX2_letterOf x2 x5 v3 w).bind fun v4 => (fX3_agree v2 v4).bind fun v5 => if v5 = 0 then (some (0 : Int32)) else ((mg_gI w 2 x0 1).bind fun v6 => (fX3_twice x4 v6).bind fun v7 => (mg_gI w 2 x1 1).bind fun v8 => (fX3_twice x5 v8).bind fun v9 => fX3_agreeAhead_b15 w n x0 x1 x2 x3 v7 v9 (x6 + (1 : Int32))))))
set_option maxHeartbeats 4000000 in
set_option maxRecDepth 100000 in
theorem gX3_agreeAhead_b15 (hC : mg_Cx E p s m args meth c cX3_agreeAhead 7 (some .boolean) RX3) (w : mg_H) (sz : Nat) : ∀ (n : Nat) (x0 : Nat) (x1 : Nat) (x2 : Nat) (x3 : Int32) (x4 : Int32) (x5 : Int32) (x6 : Int32) (cells slots : Nat), mg_G E p l e ({ frames := 2, cells := C, slots := S, locals := 49 } : Room) s m args below meth c 7 (mg_oR mg_vI w) (fX3_agreeAhead_b15 w n x0 x1 x2 x3 x4 x5 x6) w sz cells slots 15 [(0, .ref x0), (1, .ref x1), (2, .ref x2), (3, .int x3), (4, .int x4), (5, .int x5), (6, .int x6)] [] := by
  intro n
  induction n with
  | zero => intros; exact fun o hf => by rw [fX3_agreeAhead_b15] at hf; cases hf
  | succ n ih =>
    intro x0 x1 x2 x3 x4 x5 x6 cells slots
    rw [fX3_agreeAhead_b15]
    refine mg_iload (pc := 15) hC 6 dX3_agreeAhead_15 rfl ?_
    refine mg_iload_n (pc := 17) hC 3 dX3_agreeAhead_17 rfl ?_
    refine mg_icmp_ge (pc := 18) hC 77 dX3_agreeAhead_18 (by decide) (fun _ => ?_) (fun _ => ?_)
    · refine mg_iconst (pc := 77) hC (1 : Int32) dX3_agreeAhead_77 (by decide) ?_
      exact mg_zretC (pc := 78) hC (by decide) rfl dX3_agreeAhead_78
    · refine mg_aload_n (pc := 21) hC 2 dX3_agreeAhead_21 rfl ?_
      refine mg_iload (pc := 22) hC 4 dX3_agreeAhead_22 rfl ?_
      refine mg_aload_n (pc := 24) hC 0 dX3_agreeAhead_24 rfl ?_
      refine mg_getI (pc := 25) (ci := 2) (k := 1) hC mi_2 rfl (by decide) mw_73 dX3_agreeAhead_25 (fun v1 _ => ?_)
      refine mg_recv (ci := 2) (fun hb => ?_)
      refine mg_cRI (pc := 28) (fun r hr => mg_VR (rest := []) (av := [.int x4, .int v1]) (ci := 2) hC wdX2_letterOf mw_131 dX3_agreeAhead_28 rfl rfl ⟨Nat.le_of_ble_eq_true rfl, Nat.le_of_ble_eq_true rfl⟩ (Nat.le_of_ble_eq_true rfl) hb (kX2_letterOf hr)) (fun v2 _ => ?_)
      refine mg_aload_n (pc := 31) hC 2 dX3_agreeAhead_31 rfl ?_
      refine mg_iload (pc := 32) hC 5 dX3_agreeAhead_32 rfl ?_
      refine mg_aload_n (pc := 34) hC 1 dX3_agreeAhead_34 rfl ?_
      refine mg_getI (pc := 35) (ci := 2) (k := 1) hC mi_2 rfl (by decide) mw_73 dX3_agreeAhead_35 (fun v3 _ => ?_)
      refine mg_recv (ci := 2) (fun hb => ?_)
      refine mg_cRI (pc := 38) (fun r hr => mg_VR (rest := [.int v2]) (av := [.int x5, .int v3]) (ci := 2) hC wdX2_letterOf mw_131 dX3_agreeAhead_38 rfl rfl ⟨Nat.le_of_ble_eq_true rfl, Nat.le_of_ble_eq_true rfl⟩ (Nat.le_of_ble_eq_true rfl) hb (kX2_letterOf hr)) (fun v4 _ => ?_)
      refine mg_cRI (pc := 41) (fun r hr => mg_S (rest := []) hC wdX3_agree mw_178 mw_177 dX3_agreeAhead_41 rfl rfl ⟨Nat.le_of_ble_eq_true rfl, Nat.le_of_ble_eq_true rfl⟩ (Nat.le_of_ble_eq_true rfl) (kX3_agree hr)) (fun v5 _ => ?_)
      refine mg_if_ne (pc := 44) hC 49 dX3_agreeAhead_44 (by decide) (fun _ => ?_) (fun _ => ?_)
      · refine mg_iconst (pc := 47) hC (0 : Int32) dX3_agreeAhead_47 (by decide) ?_
        exact mg_zretC (pc := 48) hC (by decide) rfl dX3_agreeAhead_48
      · refine mg_iload (pc := 49) hC 4 dX3_agreeAhead_49 rfl ?_
        refine mg_aload_n (pc := 51) hC 0 dX3_agreeAhead_51 rfl ?_
        refine mg_getI (pc := 52) (ci := 2) (k := 1) hC mi_2 rfl (by decide) mw_73 dX3_agreeAhead_52 (fun v6 _ => ?_)
        refine mg_cRI (pc := 55) (fun r hr => mg_S (rest := []) hC wdX3_twice mw_64 mw_151 dX3_agreeAhead_55 rfl rfl ⟨Nat.le_of_ble_eq_true rfl, Nat.le_of_ble_eq_true rfl⟩ (Nat.le_of_ble_eq_true rfl) (kX3_twice hr)) (fun v7 _ => ?_)
        refine mg_istore (pc := 58) hC [(4, .int v7), (0, .ref x0), (1, .ref x1), (2, .ref x2), (3, .int x3), (5, .int x5), (6, .int x6)] dX3_agreeAhead_58 (by decide) rfl ?_
        refine mg_iload (pc := 60) hC 5 dX3_agreeAhead_60 rfl ?_
        refine mg_aload_n (pc := 62) hC 2 dX3_agreeAhead_62 rfl ?_
        refine mg_getI (pc := 63) (ci := 2) (k := 1) hC mi_2 rfl (by decide) mw_73 dX3_agreeAhead_63 (fun v8 _ => ?_)
        refine mg_cRI (pc := 66) (fun r hr => mg_S (rest := []) hC wdX3_twice mw_64 mw_151 dX3_agreeAhead_66 rfl rfl ⟨Nat.le_of_ble_eq_true rfl, Nat.le_of_ble_eq_true rfl⟩ (Nat.le_of_ble_eq_true rfl) (kX3_twice hr)) (fun v9 _ => ?_)
        refine mg_istore (pc := 69) hC [(5, .int v9), (4, .int v7), (0, .ref x0), (1, .ref x1), (2, .ref x2), (3, .int x3), (6, .int x6)] dX3_agreeAhead_69 (by decide) rfl ?_
        refine mg_iinc (pc := 71) hC 6 (x6 + (1 : Int32)) [(6, .int (x6 + (1 : Int32))), (5, .int v9), (4, .int v7), (0, .ref x0), (1, .ref x1), (2, .ref x2), (3, .int x3)] dX3_agreeAhead_71 rfl rfl (by decide) rfl ?_
        refine mg_goto (pc := 74) hC 15 dX3_agreeAhead_74 (by decide) ?_
        exact mg_sub (pc := 15) [3, 4, 5, 6, 2, 1, 0] (L' := [(0, .ref x0), (1, .ref x1), (2, .ref x2), (3, .int x3), (4, .int v7), (5, .int v9), (6, .int (x6 + (1 : Int32)))]) rfl (ih _ _ _ _ _ _ _ _ _)
def fX3_agreeAhead (x0 : Nat) (x1 : Nat) (x2 : Nat) (x3 : Int32) (w : mg_H) : Option (Int32) := (mg_gI w 2 x0 0).bind fun v1 => (mg_gI w 2 x1 0).bind fun v2 => fX3_agreeAhead_b15 w mg_N x0 x1 x2 x3 v1 v2 (0 : Int32)
set_option maxHeartbeats 4000000 in
set_option maxRecDepth 100000 in
theorem kX3_agreeAhead {E : mg_P} {l : Launch} {x0 : Nat} {x1 : Nat} {x2 : Nat} {x3 : Int32} {w : mg_H} {sz : Nat} {o : Int32} (hf : fX3_agreeAhead x0 x1 x2 x3 w = some o) : mg_C E l yX3_agreeAhead cX3_agreeAhead 7 (some .boolean) 2 49 [.ref x0, .ref x1, .ref x2, .int x3] w sz ((mg_oR mg_vI w) o) := by
  refine mg_meth (out := (mg_oR mg_vI w)) (by decide) (Nat.le_of_ble_eq_true rfl) hf ?_
  intro p e C S s m below meth c hC hin
  have hC : mg_Cx E p s m _ meth c cX3_agreeAhead 7 (some .boolean) RX3 := hC
  unfold fX3_agreeAhead
  refine mg_sub (pc := 0) [0, 1, 2, 3] (L' := [(0, .ref x0), (1, .ref x1), (2, .ref x2), (3, .int x3)]) rfl ?_
  refine mg_aload_n (pc := 0) hC 0 dX3_agreeAhead_0 rfl ?_
  refine mg_getI (pc := 1) (ci := 2) (k := 0) hC mi_2 rfl (by decide) mw_70 dX3_agreeAhead_1 (fun v1 _ => ?_)
  refine mg_istore (pc := 4) hC [(4, .int v1), (0, .ref x0), (1, .ref x1), (2, .ref x2), (3, .int x3)] dX3_agreeAhead_4 (by decide) rfl ?_
  refine mg_aload_n (pc := 6) hC 2 dX3_agreeAhead_6 rfl ?_
  refine mg_getI (pc := 7) (ci := 2) (k := 0) hC mi_2 rfl (by decide) mw_70 dX3_agreeAhead_7 (fun v2 _ => ?_)
  refine mg_istore (pc := 10) hC [(5, .int v2), (4, .int v1), (0, .ref x0), (1, .ref x1), (2, .ref x2), (3, .int x3)] dX3_agreeAhead_10 (by decide) rfl ?_
  refine mg_iconst (pc := 12) hC (0 : Int32) dX3_agreeAhead_12 (by decide) ?_
  refine mg_istore (pc := 13) hC [(6, .int (0 : Int32)), (5, .int v2), (4, .int v1), (0, .ref x0), (1, .ref x1), (2, .ref x2), (3, .int x3)] dX3_agreeAhead_13 (by decide) rfl ?_
  exact mg_sub (pc := 15) [3, 4, 5, 6, 2, 1, 0] (L' := [(0, .ref x0), (1, .ref x1), (2, .ref x2), (3, .int x3), (4, .int v1), (5, .int v2), (6, .int (0 : Int32))]) rfl (gX3_agreeAhead_b15 hC _ _  _ _ _ _ _ _ _ _ _ _)
theorem wdX3_agreeAhead : mg_Wd yX3_agreeAhead cX3_agreeAhead 7 (some .boolean) 4 := ⟨mw_176, mw_1, by decide, by decide, by decide +kernel⟩
def fX3_agreeInRings_b239 (r155 : Nat → Nat → Nat → Int32 → Int32 → Int32 → Int32 → mg_H → Option (Int32 × mg_H)) (x0 : Nat) (x2 : Nat) (x3 : Nat) (x5 : Int32) (x6 : Int32) (x8 : Int32) (s0 : Int32) (w : mg_H) : Option (Int32 × mg_H) := r155 x0 x2 x3 x5 x6 s0 (x8 + (1 : Int32)) w
set_option maxHeartbeats 4000000 in
set_option maxRecDepth 100000 in
theorem gX3_agreeInRings_b239 (hC : mg_Cx E p s m args meth c cX3_agreeInRings 10 (some .boolean) RX3) (sz : Nat) (r155 : Nat → Nat → Nat → Int32 → Int32 → Int32 → Int32 → mg_H → Option (Int32 × mg_H)) (hr155 : ∀ (z0 : Nat) (z2 : Nat) (z3 : Nat) (z5 : Int32) (z6 : Int32) (z7 : Int32) (z8 : Int32) (w : mg_H) (cells slots : Nat), mg_G E p l e ({ frames := 2, cells := C, slots := S, locals := 49 } : Room) s m args below meth c 10 (mg_oS mg_vI) (r155 z0 z2 z3 z5 z6 z7 z8 w) w sz cells slots 155 [(0, .ref z0), (2, .ref z2), (3, .ref z3), (5, .int z5), (6, .int z6), (7, .int z7), (8, .int z8)] []) (x0 : Nat) (x2 : Nat) (x3 : Nat) (x5 : Int32) (x6 : Int32) (x8 : Int32) (s0 : Int32) (w : mg_H) (cells slots : Nat) : mg_G E p l e ({ frames := 2, cells := C, slots := S, locals := 49 } : Room) s m args below meth c 10 (mg_oS mg_vI) (fX3_agreeInRings_b239 r155 x0 x2 x3 x5 x6 x8 s0 w) w sz cells slots 239 [(0, .ref x0), (2, .ref x2), (3, .ref x3), (5, .int x5), (6, .int x6), (8, .int x8)] [.int s0] := by
  unfold fX3_agreeInRings_b239
  refine mg_istore (pc := 239) hC [(7, .int s0), (0, .ref x0), (2, .ref x2), (3, .ref x3), (5, .int x5), (6, .int x6), (8, .int x8)] dX3_agreeInRings_239 (by decide) rfl ?_
  refine mg_iinc (pc := 241) hC 6 (x8 + (1 : Int32)) [(8, .int (x8 + (1 : Int32))), (7, .int s0), (0, .ref x0), (2, .ref x2), (3, .ref x3), (5, .int x5), (6, .int x6)] dX3_agreeInRings_241 rfl rfl (by decide) rfl ?_
  refine mg_goto (pc := 244) hC 155 dX3_agreeInRings_244 (by decide) ?_
  exact mg_sub (pc := 155) [2, 3, 4, 5, 6, 1, 0] (L' := [(0, .ref x0), (2, .ref x2), (3, .ref x3), (5, .int x5), (6, .int x6), (7, .int s0), (8, .int (x8 + (1 : Int32)))]) rfl (hr155 _ _ _ _ _ _ _ _ _ _)
def fX3_agreeInRings_b211 (r155 : Nat → Nat → Nat → Int32 → Int32 → Int32 → Int32 → mg_H → Option (Int32 × mg_H)) (x0 : Nat) (x2 : Nat) (x3 : Nat) (x5 : Int32) (x6 : Int32) (x7 : Int32) (x8 : Int32) (w : mg_H) : Option (Int32 × mg_H) := (mg_gI w 2 x2 1).bind fun v1 => (fX3_twice x6 v1).bind fun v2 => if x5 ≤ (x7 + (1 : Int32)) then (fX3_agreeInRings_b239 r155 x0 x2 x3 x5 v2 x8 (0 : Int32) w) else (fX3_agreeInRings_b239 r155 x0 x2 x3 x5 v2 x8 (x7 + (1 : Int32)) w)
set_option maxHeartbeats 4000000 in
set_option maxRecDepth 100000 in
theorem gX3_agreeInRings_b211 (hC : mg_Cx E p s m args meth c cX3_agreeInRings 10 (some .boolean) RX3) (sz : Nat) (r155 : Nat → Nat → Nat → Int32 → Int32 → Int32 → Int32 → mg_H → Option (Int32 × mg_H)) (hr155 : ∀ (z0 : Nat) (z2 : Nat) (z3 : Nat) (z5 : Int32) (z6 : Int32) (z7 : Int32) (z8 : Int32) (w : mg_H) (cells slots : Nat), mg_G E p l e ({ frames := 2, cells := C, slots := S, locals := 49 } : Room) s m args below meth c 10 (mg_oS mg_vI) (r155 z0 z2 z3 z5 z6 z7 z8 w) w sz cells slots 155 [(0, .ref z0), (2, .ref z2), (3, .ref z3), (5, .int z5), (6, .int z6), (7, .int z7), (8, .int z8)] []) (x0 : Nat) (x2 : Nat) (x3 : Nat) (x5 : Int32) (x6 : Int32) (x7 : Int32) (x8 : Int32) (w : mg_H) (cells slots : Nat) : mg_G E p l e ({ frames := 2, cells := C, slots := S, locals := 49 } : Room) s m args below meth c 10 (mg_oS mg_vI) (fX3_agreeInRings_b211 r155 x0 x2 x3 x5 x6 x7 x8 w) w sz cells slots 211 [(0, .ref x0), (2, .ref x2), (3, .ref x3), (5, .int x5), (6, .int x6), (7, .int x7), (8, .int x8)] [] := by
  unfold fX3_agreeInRings_b211
  refine mg_iload (pc := 211) hC 4 dX3_agreeInRings_211 rfl ?_
  refine mg_aload_n (pc := 213) hC 1 dX3_agreeInRings_213 rfl ?_
  refine mg_getI (pc := 214) (ci := 2) (k := 1) hC mi_2 rfl (by decide) mw_73 dX3_agreeInRings_214 (fun v1 _ => ?_)
  refine mg_cRI (pc := 217) (fun r hr => mg_S (rest := []) hC wdX3_twice mw_64 mw_151 dX3_agreeInRings_217 rfl rfl ⟨Nat.le_of_ble_eq_true rfl, Nat.le_of_ble_eq_true rfl⟩ (Nat.le_of_ble_eq_true rfl) (kX3_twice hr)) (fun v2 _ => ?_)
  refine mg_istore (pc := 220) hC [(6, .int v2), (0, .ref x0), (2, .ref x2), (3, .ref x3), (5, .int x5), (7, .int x7), (8, .int x8)] dX3_agreeInRings_220 (by decide) rfl ?_
  refine mg_iload (pc := 222) hC 5 dX3_agreeInRings_222 rfl ?_
  refine mg_iconst (pc := 224) hC (1 : Int32) dX3_agreeInRings_224 (by decide) ?_
  refine mg_iadd (pc := 225) hC dX3_agreeInRings_225 ?_
  refine mg_iload (pc := 226) hC 4 dX3_agreeInRings_226 rfl ?_
  refine mg_icmp_ge (pc := 228) hC 238 dX3_agreeInRings_228 (by decide) (fun _ => ?_) (fun _ => ?_)
  · refine mg_iconst (pc := 238) hC (0 : Int32) dX3_agreeInRings_238 (by decide) ?_
    exact mg_sub (pc := 239) [1, 2, 3, 4, 0, 6] (L' := [(0, .ref x0), (2, .ref x2), (3, .ref x3), (5, .int x5), (6, .int v2), (8, .int x8)]) rfl (gX3_agreeInRings_b239 hC _ _ hr155 _ _ _ _ _ _ _ _ _ _)
  · refine mg_iload (pc := 231) hC 5 dX3_agreeInRings_231 rfl ?_
    refine mg_iconst (pc := 233) hC (1 : Int32) dX3_agreeInRings_233 (by decide) ?_
    refine mg_iadd (pc := 234) hC dX3_agreeInRings_234 ?_
    refine mg_goto (pc := 235) hC 239 dX3_agreeInRings_235 (by decide) ?_
    exact mg_sub (pc := 239) [1, 2, 3, 4, 0, 6] (L' := [(0, .ref x0), (2, .ref x2), (3, .ref x3), (5, .int x5), (6, .int v2), (8, .int x8)]) rfl (gX3_agreeInRings_b239 hC _ _ hr155 _ _ _ _ _ _ _ _ _ _)
def fX3_agreeInRings_b155 : Nat → Nat → Nat → Nat → Int32 → Int32 → Int32 → Int32 → mg_H → Option (Int32 × mg_H)
  | 0, _, _, _, _, _, _, _, _ => none
  | n + 1, x0, x2, x3, x5, x6, x7, x8, w => (mg_gI w 2 x2 3).bind fun v1 => if v1 ≤ x8 then (some ((1 : Int32), w)) else (mg_gN w 3 x0 2 fun v2 => (mg_len w v2).bind fun v3 => if v3 ≤ x7 then (some ((1 : Int32), w)) else ((mg_gI w 2 x2 1).bind fun v4 => mg_rc w 2 x3 ((fX2_letterOf x3 x6 v4 w).bind fun v5 => if v5 = (2 : Int32) then (fX3_agreeInRings_b211 (fX3_agreeInRings_b155 n) x0 x2 x3 x5 x6 x7 x8 w) else (mg_gN w 3 x0 2 fun v6 => (mg_ldI w 0 v6 x7).bind fun v7 => if (v7 &&& ((1 : Int32) <<< (((1 : Int32) - v5) &&& 31))) = 0 then (fX3_agreeInRings_b211 (fX3_agreeInRings_b155 n) x0 x2 x3 x5 x6 x7 x8 w) else (some ((0 : Int32), w))))))
set_option maxHeartbeats 4000000 in
set_option maxRecDepth 100000 in
theorem gX3_agreeInRings_b155 (hC : mg_Cx E p s m args meth c cX3_agreeInRings 10 (some .boolean) RX3) (sz : Nat) : ∀ (n : Nat) (x0 : Nat) (x2 : Nat) (x3 : Nat) (x5 : Int32) (x6 : Int32) (x7 : Int32) (x8 : Int32) (w : mg_H) (cells slots : Nat), mg_G E p l e ({ frames := 2, cells := C, slots := S, locals := 49 } : Room) s m args below meth c 10 (mg_oS mg_vI) (fX3_agreeInRings_b155 n x0 x2 x3 x5 x6 x7 x8 w) w sz cells slots 155 [(0, .ref x0), (2, .ref x2), (3, .ref x3), (5, .int x5), (6, .int x6), (7, .int x7), (8, .int x8)] [] := by
  intro n
  induction n with
  | zero => intros; exact fun o hf => by rw [fX3_agreeInRings_b155] at hf; cases hf
  | succ n ih =>
    intro x0 x2 x3 x5 x6 x7 x8 w cells slots
    rw [fX3_agreeInRings_b155]
    refine mg_iload (pc := 155) hC 6 dX3_agreeInRings_155 rfl ?_
    refine mg_aload_n (pc := 157) hC 1 dX3_agreeInRings_157 rfl ?_
    refine mg_getI (pc := 158) (ci := 2) (k := 3) hC mi_2 rfl (by decide) mw_78 dX3_agreeInRings_158 (fun v1 _ => ?_)
    refine mg_icmp_ge (pc := 161) hC 247 dX3_agreeInRings_161 (by decide) (fun _ => ?_) (fun _ => ?_)
    · refine mg_iconst (pc := 247) hC (1 : Int32) dX3_agreeInRings_247 (by decide) ?_
      exact mg_zretC (pc := 248) hC (by decide) rfl dX3_agreeInRings_248
    · refine mg_iload (pc := 164) hC 5 dX3_agreeInRings_164 rfl ?_
      refine mg_aload_n (pc := 166) hC 0 dX3_agreeInRings_166 rfl ?_
      refine mg_getNN (pc := 167) (ci := 3) (k := 2) hC mi_3 rfl (by decide) mw_21 dX3_agreeInRings_167 (fun v2 _ => ?_)
      refine mg_alen (pc := 170) hC dX3_agreeInRings_170 (fun v3 _ => ?_)
      refine mg_icmp_ge (pc := 171) hC 247 dX3_agreeInRings_171 (by decide) (fun _ => ?_) (fun _ => ?_)
      · refine mg_iconst (pc := 247) hC (1 : Int32) dX3_agreeInRings_247 (by decide) ?_
        exact mg_zretC (pc := 248) hC (by decide) rfl dX3_agreeInRings_248
      · refine mg_aload_n (pc := 174) hC 2 dX3_agreeInRings_174 rfl ?_
        refine mg_iload (pc := 175) hC 4 dX3_agreeInRings_175 rfl ?_
        refine mg_aload_n (pc := 177) hC 1 dX3_agreeInRings_177 rfl ?_
        refine mg_getI (pc := 178) (ci := 2) (k := 1) hC mi_2 rfl (by decide) mw_73 dX3_agreeInRings_178 (fun v4 _ => ?_)
        refine mg_recv (ci := 2) (fun hb => ?_)
        refine mg_cRI (pc := 181) (fun r hr => mg_VR (rest := []) (av := [.int x6, .int v4]) (ci := 2) hC wdX2_letterOf mw_131 dX3_agreeInRings_181 rfl rfl ⟨Nat.le_of_ble_eq_true rfl, Nat.le_of_ble_eq_true rfl⟩ (Nat.le_of_ble_eq_true rfl) hb (kX2_letterOf hr)) (fun v5 _ => ?_)
        refine mg_istore (pc := 184) hC [(9, .int v5), (0, .ref x0), (2, .ref x2), (3, .ref x3), (5, .int x5), (6, .int x6), (7, .int x7), (8, .int x8)] dX3_agreeInRings_184 (by decide) rfl ?_
        refine mg_iload (pc := 186) hC 0 dX3_agreeInRings_186 rfl ?_
        refine mg_iconst (pc := 188) hC (2 : Int32) dX3_agreeInRings_188 (by decide) ?_
        refine mg_icmp_eq (pc := 189) hC 211 dX3_agreeInRings_189 (by decide) (fun _ => ?_) (fun _ => ?_)
        · exact mg_sub (pc := 211) [1, 2, 3, 4, 5, 6, 7] (L' := [(0, .ref x0), (2, .ref x2), (3, .ref x3), (5, .int x5), (6, .int x6), (7, .int x7), (8, .int x8)]) rfl (gX3_agreeInRings_b211 hC _ _ ih _ _ _ _ _ _ _ _ _ _)
        · refine mg_aload_n (pc := 192) hC 1 dX3_agreeInRings_192 rfl ?_
          refine mg_getNN (pc := 193) (ci := 3) (k := 2) hC mi_3 rfl (by decide) mw_21 dX3_agreeInRings_193 (fun v6 _ => ?_)
          refine mg_iload (pc := 196) hC 6 dX3_agreeInRings_196 rfl ?_
          refine mg_iald (pc := 198) hC dX3_agreeInRings_198 (fun v7 _ => ?_)
          refine mg_iconst (pc := 199) hC (1 : Int32) dX3_agreeInRings_199 (by decide) ?_
          refine mg_iconst (pc := 200) hC (1 : Int32) dX3_agreeInRings_200 (by decide) ?_
          refine mg_iload (pc := 201) hC 0 dX3_agreeInRings_201 rfl ?_
          refine mg_isub (pc := 203) hC dX3_agreeInRings_203 ?_
          refine mg_ishl (pc := 204) hC dX3_agreeInRings_204 ?_
          refine mg_iand (pc := 205) hC dX3_agreeInRings_205 ?_
          refine mg_if_eq (pc := 206) hC 211 dX3_agreeInRings_206 (by decide) (fun _ => ?_) (fun _ => ?_)
          · exact mg_sub (pc := 211) [1, 2, 3, 4, 5, 6, 7] (L' := [(0, .ref x0), (2, .ref x2), (3, .ref x3), (5, .int x5), (6, .int x6), (7, .int x7), (8, .int x8)]) rfl (gX3_agreeInRings_b211 hC _ _ ih _ _ _ _ _ _ _ _ _ _)
          · refine mg_iconst (pc := 209) hC (0 : Int32) dX3_agreeInRings_209 (by decide) ?_
            exact mg_zretC (pc := 210) hC (by decide) rfl dX3_agreeInRings_210
def fX3_agreeInRings_b141 (x0 : Nat) (x2 : Nat) (x3 : Nat) (x4 : Int32) (x5 : Int32) (w : mg_H) : Option (Int32 × mg_H) := mg_rc w 2 x2 ((fX2_upAfter x2 x4 w).bind fun v1 => fX3_agreeInRings_b155 mg_N x0 x2 x3 x5 v1 (0 : Int32) (0 : Int32) w)
set_option maxHeartbeats 4000000 in
set_option maxRecDepth 100000 in
theorem gX3_agreeInRings_b141 (hC : mg_Cx E p s m args meth c cX3_agreeInRings 10 (some .boolean) RX3) (sz : Nat) (x0 : Nat) (x2 : Nat) (x3 : Nat) (x4 : Int32) (x5 : Int32) (w : mg_H) (cells slots : Nat) : mg_G E p l e ({ frames := 2, cells := C, slots := S, locals := 49 } : Room) s m args below meth c 10 (mg_oS mg_vI) (fX3_agreeInRings_b141 x0 x2 x3 x4 x5 w) w sz cells slots 141 [(0, .ref x0), (2, .ref x2), (3, .ref x3), (4, .int x4), (5, .int x5)] [] := by
  unfold fX3_agreeInRings_b141
  refine mg_aload_n (pc := 141) hC 1 dX3_agreeInRings_141 rfl ?_
  refine mg_iload (pc := 142) hC 3 dX3_agreeInRings_142 rfl ?_
  refine mg_recv (ci := 2) (fun hb => ?_)
  refine mg_cRI (pc := 144) (fun r hr => mg_VR (rest := []) (av := [.int x4]) (ci := 2) hC wdX2_upAfter mw_110 dX3_agreeInRings_144 rfl rfl ⟨Nat.le_of_ble_eq_true rfl, Nat.le_of_ble_eq_true rfl⟩ (Nat.le_of_ble_eq_true rfl) hb (kX2_upAfter hr)) (fun v1 _ => ?_)
  refine mg_istore (pc := 147) hC [(6, .int v1), (0, .ref x0), (2, .ref x2), (3, .ref x3), (4, .int x4), (5, .int x5)] dX3_agreeInRings_147 (by decide) rfl ?_
  refine mg_iconst (pc := 149) hC (0 : Int32) dX3_agreeInRings_149 (by decide) ?_
  refine mg_istore (pc := 150) hC [(7, .int (0 : Int32)), (6, .int v1), (0, .ref x0), (2, .ref x2), (3, .ref x3), (4, .int x4), (5, .int x5)] dX3_agreeInRings_150 (by decide) rfl ?_
  refine mg_iconst (pc := 152) hC (0 : Int32) dX3_agreeInRings_152 (by decide) ?_
  refine mg_istore (pc := 153) hC [(8, .int (0 : Int32)), (7, .int (0 : Int32)), (6, .int v1), (0, .ref x0), (2, .ref x2), (3, .ref x3), (4, .int x4), (5, .int x5)] dX3_agreeInRings_153 (by decide) rfl ?_
  exact mg_sub (pc := 155) [3, 4, 5, 7, 2, 1, 0] (L' := [(0, .ref x0), (2, .ref x2), (3, .ref x3), (5, .int x5), (6, .int v1), (7, .int (0 : Int32)), (8, .int (0 : Int32))]) rfl (gX3_agreeInRings_b155 hC _  _ _ _ _ _ _ _ _ _ _ _)
def fX3_agreeInRings_b133 (r64 : Nat → Nat → Nat → Nat → Int32 → Int32 → Int32 → Int32 → Int32 → mg_H → Option (Int32 × mg_H)) (x0 : Nat) (x1 : Nat) (x2 : Nat) (x3 : Nat) (x4 : Int32) (x5 : Int32) (x6 : Int32) (x8 : Int32) (s0 : Int32) (w : mg_H) : Option (Int32 × mg_H) := r64 x0 x1 x2 x3 x4 x5 x6 s0 (x8 + (1 : Int32)) w
set_option maxHeartbeats 4000000 in
set_option maxRecDepth 100000 in
theorem gX3_agreeInRings_b133 (hC : mg_Cx E p s m args meth c cX3_agreeInRings 10 (some .boolean) RX3) (sz : Nat) (r64 : Nat → Nat → Nat → Nat → Int32 → Int32 → Int32 → Int32 → Int32 → mg_H → Option (Int32 × mg_H)) (hr64 : ∀ (z0 : Nat) (z1 : Nat) (z2 : Nat) (z3 : Nat) (z4 : Int32) (z5 : Int32) (z6 : Int32) (z7 : Int32) (z8 : Int32) (w : mg_H) (cells slots : Nat), mg_G E p l e ({ frames := 2, cells := C, slots := S, locals := 49 } : Room) s m args below meth c 10 (mg_oS mg_vI) (r64 z0 z1 z2 z3 z4 z5 z6 z7 z8 w) w sz cells slots 64 [(0, .ref z0), (1, .ref z1), (2, .ref z2), (3, .ref z3), (4, .int z4), (5, .int z5), (6, .int z6), (7, .int z7), (8, .int z8)] []) (x0 : Nat) (x1 : Nat) (x2 : Nat) (x3 : Nat) (x4 : Int32) (x5 : Int32) (x6 : Int32) (x8 : Int32) (s0 : Int32) (w : mg_H) (cells slots : Nat) : mg_G E p l e ({ frames := 2, cells := C, slots := S, locals := 49 } : Room) s m args below meth c 10 (mg_oS mg_vI) (fX3_agreeInRings_b133 r64 x0 x1 x2 x3 x4 x5 x6 x8 s0 w) w sz cells slots 133 [(0, .ref x0), (1, .ref x1), (2, .ref x2), (3, .ref x3), (4, .int x4), (5, .int x5), (6, .int x6), (8, .int x8)] [.int s0] := by
  unfold fX3_agreeInRings_b133
  refine mg_istore (pc := 133) hC [(7, .int s0), (0, .ref x0), (1, .ref x1), (2, .ref x2), (3, .ref x3), (4, .int x4), (5, .int x5), (6, .int x6), (8, .int x8)] dX3_agreeInRings_133 (by decide) rfl ?_
  refine mg_iinc (pc := 135) hC 8 (x8 + (1 : Int32)) [(8, .int (x8 + (1 : Int32))), (7, .int s0), (0, .ref x0), (1, .ref x1), (2, .ref x2), (3, .ref x3), (4, .int x4), (5, .int x5), (6, .int x6)] dX3_agreeInRings_135 rfl rfl (by decide) rfl ?_
  refine mg_goto (pc := 138) hC 64 dX3_agreeInRings_138 (by decide) ?_
  exact mg_sub (pc := 64) [2, 3, 4, 5, 6, 7, 8, 1, 0] (L' := [(0, .ref x0), (1, .ref x1), (2, .ref x2), (3, .ref x3), (4, .int x4), (5, .int x5), (6, .int x6), (7, .int s0), (8, .int (x8 + (1 : Int32)))]) rfl (hr64 _ _ _ _ _ _ _ _ _ _ _ _)
def fX3_agreeInRings_b64 : Nat → Nat → Nat → Nat → Nat → Int32 → Int32 → Int32 → Int32 → Int32 → mg_H → Option (Int32 × mg_H)
  | 0, _, _, _, _, _, _, _, _, _, _ => none
  | n + 1, x0, x1, x2, x3, x4, x5, x6, x7, x8, w => (mg_gI w 2 x1 3).bind fun v1 => if v1 ≤ x8 then (fX3_agreeInRings_b141 x0 x2 x3 x4 x5 w) else (mg_gN w 3 x0 2 fun v2 => (mg_len w v2).bind fun v3 => if v3 ≤ x7 then (fX3_agreeInRings_b141 x0 x2 x3 x4 x5 w) else (mg_gN w 3 x0 2 fun v4 => (mg_ldI w 0 v4 x7).bind fun v5 => (mg_gI w 2 x1 1).bind fun v6 => mg_rc w 2 x3 ((fX2_letterOf x3 x6 v6 w).bind fun v7 => (mg_stI w v4 x7 (v5 ||| ((1 : Int32) <<< (v7 &&& 31)))).bind fun w8 => (mg_gI w8 2 x1 1).bind fun v9 => (fX3_twice x6 v9).bind fun v10 => if x5 ≤ (x7 + (1 : Int32)) then (fX3_agreeInRings_b133 (fX3_agreeInRings_b64 n) x0 x1 x2 x3 x4 x5 v10 x8 (0 : Int32) w8) else (fX3_agreeInRings_b133 (fX3_agreeInRings_b64 n) x0 x1 x2 x3 x4 x5 v10 x8 (x7 + (1 : Int32)) w8))))
set_option maxHeartbeats 4000000 in
set_option maxRecDepth 100000 in
theorem gX3_agreeInRings_b64 (hC : mg_Cx E p s m args meth c cX3_agreeInRings 10 (some .boolean) RX3) (sz : Nat) : ∀ (n : Nat) (x0 : Nat) (x1 : Nat) (x2 : Nat) (x3 : Nat) (x4 : Int32) (x5 : Int32) (x6 : Int32) (x7 : Int32) (x8 : Int32) (w : mg_H) (cells slots : Nat), mg_G E p l e ({ frames := 2, cells := C, slots := S, locals := 49 } : Room) s m args below meth c 10 (mg_oS mg_vI) (fX3_agreeInRings_b64 n x0 x1 x2 x3 x4 x5 x6 x7 x8 w) w sz cells slots 64 [(0, .ref x0), (1, .ref x1), (2, .ref x2), (3, .ref x3), (4, .int x4), (5, .int x5), (6, .int x6), (7, .int x7), (8, .int x8)] [] := by
  intro n
  induction n with
  | zero => intros; exact fun o hf => by rw [fX3_agreeInRings_b64] at hf; cases hf
  | succ n ih =>
    intro x0 x1 x2 x3 x4 x5 x6 x7 x8 w cells slots
    rw [fX3_agreeInRings_b64]
    refine mg_iload (pc := 64) hC 8 dX3_agreeInRings_64 rfl ?_
    refine mg_aload_n (pc := 66) hC 1 dX3_agreeInRings_66 rfl ?_
    refine mg_getI (pc := 67) (ci := 2) (k := 3) hC mi_2 rfl (by decide) mw_78 dX3_agreeInRings_67 (fun v1 _ => ?_)
    refine mg_icmp_ge (pc := 70) hC 141 dX3_agreeInRings_70 (by decide) (fun _ => ?_) (fun _ => ?_)
    · exact mg_sub (pc := 141) [0, 2, 3, 4, 5] (L' := [(0, .ref x0), (2, .ref x2), (3, .ref x3), (4, .int x4), (5, .int x5)]) rfl (gX3_agreeInRings_b141 hC _  _ _ _ _ _ _ _ _)
    · refine mg_iload (pc := 73) hC 7 dX3_agreeInRings_73 rfl ?_
      refine mg_aload_n (pc := 75) hC 0 dX3_agreeInRings_75 rfl ?_
      refine mg_getNN (pc := 76) (ci := 3) (k := 2) hC mi_3 rfl (by decide) mw_21 dX3_agreeInRings_76 (fun v2 _ => ?_)
      refine mg_alen (pc := 79) hC dX3_agreeInRings_79 (fun v3 _ => ?_)
      refine mg_icmp_ge (pc := 80) hC 141 dX3_agreeInRings_80 (by decide) (fun _ => ?_) (fun _ => ?_)
      · exact mg_sub (pc := 141) [0, 2, 3, 4, 5] (L' := [(0, .ref x0), (2, .ref x2), (3, .ref x3), (4, .int x4), (5, .int x5)]) rfl (gX3_agreeInRings_b141 hC _  _ _ _ _ _ _ _ _)
      · refine mg_aload_n (pc := 83) hC 0 dX3_agreeInRings_83 rfl ?_
        refine mg_getNN (pc := 84) (ci := 3) (k := 2) hC mi_3 rfl (by decide) mw_21 dX3_agreeInRings_84 (fun v4 _ => ?_)
        refine mg_iload (pc := 87) hC 7 dX3_agreeInRings_87 rfl ?_
        refine mg_dup2_11 (pc := 89) hC dX3_agreeInRings_89 rfl rfl ?_
        refine mg_iald (pc := 90) hC dX3_agreeInRings_90 (fun v5 _ => ?_)
        refine mg_iconst (pc := 91) hC (1 : Int32) dX3_agreeInRings_91 (by decide) ?_
        refine mg_aload_n (pc := 92) hC 3 dX3_agreeInRings_92 rfl ?_
        refine mg_iload (pc := 93) hC 6 dX3_agreeInRings_93 rfl ?_
        refine mg_aload_n (pc := 95) hC 1 dX3_agreeInRings_95 rfl ?_
        refine mg_getI (pc := 96) (ci := 2) (k := 1) hC mi_2 rfl (by decide) mw_73 dX3_agreeInRings_96 (fun v6 _ => ?_)
        refine mg_recv (ci := 2) (fun hb => ?_)
        refine mg_cRI (pc := 99) (fun r hr => mg_VR (rest := [.int (1 : Int32), .int v5, .int x7, .ref v4]) (av := [.int x6, .int v6]) (ci := 2) hC wdX2_letterOf mw_131 dX3_agreeInRings_99 rfl rfl ⟨Nat.le_of_ble_eq_true rfl, Nat.le_of_ble_eq_true rfl⟩ (Nat.le_of_ble_eq_true rfl) hb (kX2_letterOf hr)) (fun v7 _ => ?_)
        refine mg_ishl (pc := 102) hC dX3_agreeInRings_102 ?_
        refine mg_ior (pc := 103) hC dX3_agreeInRings_103 ?_
        refine mg_iast (pc := 104) hC dX3_agreeInRings_104 (fun w8 _ => ?_)
        refine mg_iload (pc := 105) hC 6 dX3_agreeInRings_105 rfl ?_
        refine mg_aload_n (pc := 107) hC 1 dX3_agreeInRings_107 rfl ?_
        refine mg_getI (pc := 108) (ci := 2) (k := 1) hC mi_2 rfl (by decide) mw_73 dX3_agreeInRings_108 (fun v9 _ => ?_)
        refine mg_cRI (pc := 111) (fun r hr => mg_S (rest := []) hC wdX3_twice mw_64 mw_151 dX3_agreeInRings_111 rfl rfl ⟨Nat.le_of_ble_eq_true rfl, Nat.le_of_ble_eq_true rfl⟩ (Nat.le_of_ble_eq_true rfl) (kX3_twice hr)) (fun v10 _ => ?_)
        refine mg_istore (pc := 114) hC [(6, .int v10), (0, .ref x0), (1, .ref x1), (2, .ref x2), (3, .ref x3), (4, .int x4), (5, .int x5), (7, .int x7), (8, .int x8)] dX3_agreeInRings_114 (by decide) rfl ?_
        refine mg_iload (pc := 116) hC 7 dX3_agreeInRings_116 rfl ?_
        refine mg_iconst (pc := 118) hC (1 : Int32) dX3_agreeInRings_118 (by decide) ?_
        refine mg_iadd (pc := 119) hC dX3_agreeInRings_119 ?_
        refine mg_iload (pc := 120) hC 6 dX3_agreeInRings_120 rfl ?_
        refine mg_icmp_ge (pc := 122) hC 132 dX3_agreeInRings_122 (by decide) (fun _ => ?_) (fun _ => ?_)
        · refine mg_iconst (pc := 132) hC (0 : Int32) dX3_agreeInRings_132 (by decide) ?_
          exact mg_sub (pc := 133) [1, 2, 3, 4, 5, 6, 0, 8] (L' := [(0, .ref x0), (1, .ref x1), (2, .ref x2), (3, .ref x3), (4, .int x4), (5, .int x5), (6, .int v10), (8, .int x8)]) rfl (gX3_agreeInRings_b133 hC _ _ ih _ _ _ _ _ _ _ _ _ _ _ _)
        · refine mg_iload (pc := 125) hC 7 dX3_agreeInRings_125 rfl ?_
          refine mg_iconst (pc := 127) hC (1 : Int32) dX3_agreeInRings_127 (by decide) ?_
          refine mg_iadd (pc := 128) hC dX3_agreeInRings_128 ?_
          refine mg_goto (pc := 129) hC 133 dX3_agreeInRings_129 (by decide) ?_
          exact mg_sub (pc := 133) [1, 2, 3, 4, 5, 6, 0, 8] (L' := [(0, .ref x0), (1, .ref x1), (2, .ref x2), (3, .ref x3), (4, .int x4), (5, .int x5), (6, .int v10), (8, .int x8)]) rfl (gX3_agreeInRings_b133 hC _ _ ih _ _ _ _ _ _ _ _ _ _ _ _)
def fX3_agreeInRings_b50 (x0 : Nat) (x1 : Nat) (x2 : Nat) (x3 : Nat) (x4 : Int32) (x5 : Int32) (w : mg_H) : Option (Int32 × mg_H) := mg_rc w 2 x1 ((fX2_upAfter x1 x4 w).bind fun v1 => fX3_agreeInRings_b64 mg_N x0 x1 x2 x3 x4 x5 v1 (0 : Int32) (0 : Int32) w)
set_option maxHeartbeats 4000000 in
set_option maxRecDepth 100000 in
theorem gX3_agreeInRings_b50 (hC : mg_Cx E p s m args meth c cX3_agreeInRings 10 (some .boolean) RX3) (sz : Nat) (x0 : Nat) (x1 : Nat) (x2 : Nat) (x3 : Nat) (x4 : Int32) (x5 : Int32) (w : mg_H) (cells slots : Nat) : mg_G E p l e ({ frames := 2, cells := C, slots := S, locals := 49 } : Room) s m args below meth c 10 (mg_oS mg_vI) (fX3_agreeInRings_b50 x0 x1 x2 x3 x4 x5 w) w sz cells slots 50 [(0, .ref x0), (1, .ref x1), (2, .ref x2), (3, .ref x3), (4, .int x4), (5, .int x5)] [] := by
  unfold fX3_agreeInRings_b50
  refine mg_aload_n (pc := 50) hC 1 dX3_agreeInRings_50 rfl ?_
  refine mg_iload (pc := 51) hC 4 dX3_agreeInRings_51 rfl ?_
  refine mg_recv (ci := 2) (fun hb => ?_)
  refine mg_cRI (pc := 53) (fun r hr => mg_VR (rest := []) (av := [.int x4]) (ci := 2) hC wdX2_upAfter mw_110 dX3_agreeInRings_53 rfl rfl ⟨Nat.le_of_ble_eq_true rfl, Nat.le_of_ble_eq_true rfl⟩ (Nat.le_of_ble_eq_true rfl) hb (kX2_upAfter hr)) (fun v1 _ => ?_)
  refine mg_istore (pc := 56) hC [(6, .int v1), (0, .ref x0), (1, .ref x1), (2, .ref x2), (3, .ref x3), (4, .int x4), (5, .int x5)] dX3_agreeInRings_56 (by decide) rfl ?_
  refine mg_iconst (pc := 58) hC (0 : Int32) dX3_agreeInRings_58 (by decide) ?_
  refine mg_istore (pc := 59) hC [(7, .int (0 : Int32)), (6, .int v1), (0, .ref x0), (1, .ref x1), (2, .ref x2), (3, .ref x3), (4, .int x4), (5, .int x5)] dX3_agreeInRings_59 (by decide) rfl ?_
  refine mg_iconst (pc := 61) hC (0 : Int32) dX3_agreeInRings_61 (by decide) ?_
  refine mg_istore (pc := 62) hC [(8, .int (0 : Int32)), (7, .int (0 : Int32)), (6, .int v1), (0, .ref x0), (1, .ref x1), (2, .ref x2), (3, .ref x3), (4, .int x4), (5, .int x5)] dX3_agreeInRings_62 (by decide) rfl ?_
  exact mg_sub (pc := 64) [3, 4, 5, 6, 7, 8, 2, 1, 0] (L' := [(0, .ref x0), (1, .ref x1), (2, .ref x2), (3, .ref x3), (4, .int x4), (5, .int x5), (6, .int v1), (7, .int (0 : Int32)), (8, .int (0 : Int32))]) rfl (gX3_agreeInRings_b64 hC _  _ _ _ _ _ _ _ _ _ _ _ _ _)
def fX3_agreeInRings_b19 : Nat → Nat → Nat → Nat → Nat → Int32 → Int32 → Int32 → mg_H → Option (Int32 × mg_H)
  | 0, _, _, _, _, _, _, _, _ => none
  | n + 1, x0, x1, x2, x3, x4, x5, x6, w => if x5 ≤ x6 then (fX3_agreeInRings_b50 x0 x1 x2 x3 x4 x5 w) else (mg_gN w 3 x0 2 fun v1 => (mg_len w v1).bind fun v2 => if v2 ≤ x6 then (fX3_agreeInRings_b50 x0 x1 x2 x3 x4 x5 w) else (mg_gN w 3 x0 2 fun v3 => (mg_stI w v3 x6 (0 : Int32)).bind fun w4 => fX3_agreeInRings_b19 n x0 x1 x2 x3 x4 x5 (x6 + (1 : Int32)) w4))
set_option maxHeartbeats 4000000 in
set_option maxRecDepth 100000 in
theorem gX3_agreeInRings_b19 (hC : mg_Cx E p s m args meth c cX3_agreeInRings 10 (some .boolean) RX3) (sz : Nat) : ∀ (n : Nat) (x0 : Nat) (x1 : Nat) (x2 : Nat) (x3 : Nat) (x4 : Int32) (x5 : Int32) (x6 : Int32) (w : mg_H) (cells slots : Nat), mg_G E p l e ({ frames := 2, cells := C, slots := S, locals := 49 } : Room) s m args below meth c 10 (mg_oS mg_vI) (fX3_agreeInRings_b19 n x0 x1 x2 x3 x4 x5 x6 w) w sz cells slots 19 [(0, .ref x0), (1, .ref x1), (2, .ref x2), (3, .ref x3), (4, .int x4), (5, .int x5), (6, .int x6)] [] := by
  intro n
  induction n with
  | zero => intros; exact fun o hf => by rw [fX3_agreeInRings_b19] at hf; cases hf
  | succ n ih =>
    intro x0 x1 x2 x3 x4 x5 x6 w cells slots
    rw [fX3_agreeInRings_b19]
    refine mg_iload (pc := 19) hC 6 dX3_agreeInRings_19 rfl ?_
    refine mg_iload (pc := 21) hC 5 dX3_agreeInRings_21 rfl ?_
    refine mg_icmp_ge (pc := 23) hC 50 dX3_agreeInRings_23 (by decide) (fun _ => ?_) (fun _ => ?_)
    · exact mg_sub (pc := 50) [0, 1, 2, 3, 4, 5] (L' := [(0, .ref x0), (1, .ref x1), (2, .ref x2), (3, .ref x3), (4, .int x4), (5, .int x5)]) rfl (gX3_agreeInRings_b50 hC _  _ _ _ _ _ _ _ _ _)
    · refine mg_iload (pc := 26) hC 6 dX3_agreeInRings_26 rfl ?_
      refine mg_aload_n (pc := 28) hC 0 dX3_agreeInRings_28 rfl ?_
      refine mg_getNN (pc := 29) (ci := 3) (k := 2) hC mi_3 rfl (by decide) mw_21 dX3_agreeInRings_29 (fun v1 _ => ?_)
      refine mg_alen (pc := 32) hC dX3_agreeInRings_32 (fun v2 _ => ?_)
      refine mg_icmp_ge (pc := 33) hC 50 dX3_agreeInRings_33 (by decide) (fun _ => ?_) (fun _ => ?_)
      · exact mg_sub (pc := 50) [0, 1, 2, 3, 4, 5] (L' := [(0, .ref x0), (1, .ref x1), (2, .ref x2), (3, .ref x3), (4, .int x4), (5, .int x5)]) rfl (gX3_agreeInRings_b50 hC _  _ _ _ _ _ _ _ _ _)
      · refine mg_aload_n (pc := 36) hC 0 dX3_agreeInRings_36 rfl ?_
        refine mg_getNN (pc := 37) (ci := 3) (k := 2) hC mi_3 rfl (by decide) mw_21 dX3_agreeInRings_37 (fun v3 _ => ?_)
        refine mg_iload (pc := 40) hC 6 dX3_agreeInRings_40 rfl ?_
        refine mg_iconst (pc := 42) hC (0 : Int32) dX3_agreeInRings_42 (by decide) ?_
        refine mg_iast (pc := 43) hC dX3_agreeInRings_43 (fun w4 _ => ?_)
        refine mg_iinc (pc := 44) hC 6 (x6 + (1 : Int32)) [(6, .int (x6 + (1 : Int32))), (0, .ref x0), (1, .ref x1), (2, .ref x2), (3, .ref x3), (4, .int x4), (5, .int x5)] dX3_agreeInRings_44 rfl rfl (by decide) rfl ?_
        refine mg_goto (pc := 47) hC 19 dX3_agreeInRings_47 (by decide) ?_
        exact mg_sub (pc := 19) [1, 2, 3, 4, 5, 6, 0] (L' := [(0, .ref x0), (1, .ref x1), (2, .ref x2), (3, .ref x3), (4, .int x4), (5, .int x5), (6, .int (x6 + (1 : Int32)))]) rfl (ih _ _ _ _ _ _ _ _ _ _)
def fX3_agreeInRings (x0 : Nat) (x1 : Nat) (x2 : Nat) (x3 : Nat) (x4 : Int32) (w : mg_H) : Option (Int32 × mg_H) := (mg_gI w 2 x1 3).bind fun v1 => (mg_gI w 2 x2 3).bind fun v2 => (fX3_greatestShared (v1.toInt64) (v2.toInt64)).bind fun v3 => fX3_agreeInRings_b19 mg_N x0 x1 x2 x3 x4 (v3.toInt32) (0 : Int32) w
set_option maxHeartbeats 4000000 in
set_option maxRecDepth 100000 in
theorem kX3_agreeInRings {E : mg_P} {l : Launch} {x0 : Nat} {x1 : Nat} {x2 : Nat} {x3 : Nat} {x4 : Int32} {w : mg_H} {sz : Nat} {o : Int32 × mg_H} (hf : fX3_agreeInRings x0 x1 x2 x3 x4 w = some o) : mg_C E l yX3_agreeInRings cX3_agreeInRings 10 (some .boolean) 2 49 [.ref x0, .ref x1, .ref x2, .ref x3, .int x4] w sz ((mg_oS mg_vI) o) := by
  refine mg_meth (out := (mg_oS mg_vI)) (by decide) (Nat.le_of_ble_eq_true rfl) hf ?_
  intro p e C S s m below meth c hC hin
  have hC : mg_Cx E p s m _ meth c cX3_agreeInRings 10 (some .boolean) RX3 := hC
  unfold fX3_agreeInRings
  refine mg_sub (pc := 0) [0, 1, 2, 3, 4] (L' := [(0, .ref x0), (1, .ref x1), (2, .ref x2), (3, .ref x3), (4, .int x4)]) rfl ?_
  refine mg_aload_n (pc := 0) hC 1 dX3_agreeInRings_0 rfl ?_
  refine mg_getI (pc := 1) (ci := 2) (k := 3) hC mi_2 rfl (by decide) mw_78 dX3_agreeInRings_1 (fun v1 _ => ?_)
  refine mg_i2l (pc := 4) hC dX3_agreeInRings_4 ?_
  refine mg_aload_n (pc := 5) hC 2 dX3_agreeInRings_5 rfl ?_
  refine mg_getI (pc := 6) (ci := 2) (k := 3) hC mi_2 rfl (by decide) mw_78 dX3_agreeInRings_6 (fun v2 _ => ?_)
  refine mg_i2l (pc := 9) hC dX3_agreeInRings_9 ?_
  refine mg_cRL (pc := 10) (fun r hr => mg_S (rest := []) hC wdX3_greatestShared mw_51 mw_111 dX3_agreeInRings_10 rfl rfl ⟨Nat.le_of_ble_eq_true rfl, Nat.le_of_ble_eq_true rfl⟩ (Nat.le_of_ble_eq_true rfl) (kX3_greatestShared hr)) (fun v3 _ => ?_)
  refine mg_l2i (pc := 13) hC dX3_agreeInRings_13 ?_
  refine mg_istore (pc := 14) hC [(5, .int (v3.toInt32)), (0, .ref x0), (1, .ref x1), (2, .ref x2), (3, .ref x3), (4, .int x4)] dX3_agreeInRings_14 (by decide) rfl ?_
  refine mg_iconst (pc := 16) hC (0 : Int32) dX3_agreeInRings_16 (by decide) ?_
  refine mg_istore (pc := 17) hC [(6, .int (0 : Int32)), (5, .int (v3.toInt32)), (0, .ref x0), (1, .ref x1), (2, .ref x2), (3, .ref x3), (4, .int x4)] dX3_agreeInRings_17 (by decide) rfl ?_
  exact mg_sub (pc := 19) [2, 3, 4, 5, 6, 1, 0] (L' := [(0, .ref x0), (1, .ref x1), (2, .ref x2), (3, .ref x3), (4, .int x4), (5, .int (v3.toInt32)), (6, .int (0 : Int32))]) rfl (gX3_agreeInRings_b19 hC _  _ _ _ _ _ _ _ _ _ _ _)
theorem wdX3_agreeInRings : mg_WdV 3 yX3_agreeInRings cX3_agreeInRings 10 (some .boolean) 4 := ⟨⟨mw_183, mw_1, by decide, by decide, by decide +kernel⟩, _, rfl, mw_182, mw_p5⟩
end MG03
