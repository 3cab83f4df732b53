section MG04
variable {E : mg_P} {p : Program} {l : Launch} {e : Env} {C S : Nat} {s : State} {m : MethodId} {args : Array Value} {below : List Frame} {meth : Method} {c : Code}
def fX3_meet_b87 (s0 : Int32) (w : mg_H) : Option (Int32 × mg_H) := (fX3_answer s0).bind fun v1 => some (v1, w)
set_option maxHeartbeats 4000000 in
set_option maxRecDepth 100000 in
theorem gX3_meet_b87 (hC : mg_Cx E p s m args meth c cX3_meet 8 (some .int) RX3) (sz : Nat) (s0 : Int32) (w : mg_H) (cells slots : Nat) : mg_G E p l e ({ frames := 3, cells := C, slots := S, locals := 78 } : Room) s m args below meth c 8 (mg_oS mg_vI) (fX3_meet_b87 s0 w) w sz cells slots 87 [] [.int s0] := by
  unfold fX3_meet_b87
  refine mg_cRI (pc := 87) (fun r hr => mg_S (rest := []) hC wdX3_answer mw_165 mw_164 dX3_meet_87 rfl rfl ⟨Nat.le_of_ble_eq_true rfl, Nat.le_of_ble_eq_true rfl⟩ (Nat.le_of_ble_eq_true rfl) (kX3_answer hr)) (fun v1 _ => ?_)
  exact mg_iret (pc := 90) hC rfl dX3_meet_90
def fX3_meet_b86 (w : mg_H) : Option (Int32 × mg_H) := fX3_meet_b87 (0 : Int32) w
set_option maxHeartbeats 4000000 in
set_option maxRecDepth 100000 in
theorem gX3_meet_b86 (hC : mg_Cx E p s m args meth c cX3_meet 8 (some .int) RX3) (sz : Nat) (w : mg_H) (cells slots : Nat) : mg_G E p l e ({ frames := 3, cells := C, slots := S, locals := 78 } : Room) s m args below meth c 8 (mg_oS mg_vI) (fX3_meet_b86 w) w sz cells slots 86 [] [] := by
  unfold fX3_meet_b86
  refine mg_iconst (pc := 86) hC (0 : Int32) dX3_meet_86 (by decide) ?_
  exact mg_sub (pc := 87) [] (L' := []) rfl (gX3_meet_b87 hC _  _ _ _ _)
def fX3_meet (x0 : Nat) (x1 : Int32) (x2 : Int32) (x3 : Int32) (w : mg_H) : Option (Int32 × mg_H) := mg_rc w 3 x0 ((fX3_turnAt x0 x1 w).bind fun v1 => mg_rc w 3 x0 ((fX3_turnAt x0 x2 w).bind fun v2 => mg_rc w 3 x0 ((fX3_turnAt x0 x3 w).bind fun v3 => mg_if0 v1 (some ((-1 : Int32), w)) (fun a4 => mg_if0 v2 (some ((-1 : Int32), w)) (fun a5 => mg_if0 v3 (some ((-1 : Int32), w)) (fun a6 => (mg_gI w 2 a4 2).bind fun v7 => (mg_gI w 2 a5 2).bind fun v8 => (fX3_agreeAhead a4 a5 a6 (if v7 < v8 then v8 else v7) w).bind fun v9 => if v9 = 0 then (fX3_meet_b86  w) else (mg_rc w 3 x0 (mg_bS (fX3_agreeInRings x0 a4 a5 a6 (if v7 < v8 then v8 else v7) w) fun v10 w11 => if v10 = 0 then (fX3_meet_b86  w11) else (fX3_meet_b87 (1 : Int32) w11)))))))))
set_option maxHeartbeats 4000000 in
set_option maxRecDepth 100000 in
theorem kX3_meet {E : mg_P} {l : Launch} {x0 : Nat} {x1 : Int32} {x2 : Int32} {x3 : Int32} {w : mg_H} {sz : Nat} {o : Int32 × mg_H} (hf : fX3_meet x0 x1 x2 x3 w = some o) : mg_C E l yX3_meet cX3_meet 8 (some .int) 3 78 [.ref x0, .int x1, .int x2, .int x3] w sz ((mg_oS mg_vI) o) := by
  refine mg_meth (out := (mg_oS mg_vI)) (by decide) (Nat.le_of_ble_eq_true rfl) hf ?_
  intro p e C S s m below meth c hC hin
  have hC : mg_Cx E p s m _ meth c cX3_meet 8 (some .int) RX3 := hC
  unfold fX3_meet
  refine mg_sub (pc := 0) [0, 1, 2, 3] (L' := [(0, .ref x0), (1, .int x1), (2, .int x2), (3, .int x3)]) rfl ?_
  refine mg_aload_n (pc := 0) hC 0 dX3_meet_0 rfl ?_
  refine mg_iload_n (pc := 1) hC 1 dX3_meet_1 rfl ?_
  refine mg_recv (ci := 3) (fun hb => ?_)
  refine mg_cRQ (pc := 2) (fun r hr => mg_VR (rest := []) (av := [.int x1]) (ci := 3) hC wdX3_turnAt mw_96 dX3_meet_2 rfl rfl ⟨Nat.le_of_ble_eq_true rfl, Nat.le_of_ble_eq_true rfl⟩ (Nat.le_of_ble_eq_true rfl) hb (kX3_turnAt hr)) (fun v1 _ => ?_)
  refine mg_astoreQ (pc := 5) hC [(4, va_rf v1), (0, .ref x0), (1, .int x1), (2, .int x2), (3, .int x3)] dX3_meet_5 (by decide) rfl ?_
  refine mg_aload_n (pc := 7) hC 1 dX3_meet_7 rfl ?_
  refine mg_iload_n (pc := 8) hC 3 dX3_meet_8 rfl ?_
  refine mg_recv (ci := 3) (fun hb => ?_)
  refine mg_cRQ (pc := 9) (fun r hr => mg_VR (rest := []) (av := [.int x2]) (ci := 3) hC wdX3_turnAt mw_96 dX3_meet_9 rfl rfl ⟨Nat.le_of_ble_eq_true rfl, Nat.le_of_ble_eq_true rfl⟩ (Nat.le_of_ble_eq_true rfl) hb (kX3_turnAt hr)) (fun v2 _ => ?_)
  refine mg_astoreQ (pc := 12) hC [(5, va_rf v2), (4, va_rf v1), (0, .ref x0), (1, .int x1), (2, .int x2), (3, .int x3)] dX3_meet_12 (by decide) (by cases v1 <;> rfl) ?_
  refine mg_aload_n (pc := 14) hC 2 dX3_meet_14 rfl ?_
  refine mg_iload_n (pc := 15) hC 5 dX3_meet_15 rfl ?_
  refine mg_recv (ci := 3) (fun hb => ?_)
  refine mg_cRQ (pc := 16) (fun r hr => mg_VR (rest := []) (av := [.int x3]) (ci := 3) hC wdX3_turnAt mw_96 dX3_meet_16 rfl rfl ⟨Nat.le_of_ble_eq_true rfl, Nat.le_of_ble_eq_true rfl⟩ (Nat.le_of_ble_eq_true rfl) hb (kX3_turnAt hr)) (fun v3 _ => ?_)
  refine mg_astoreQ (pc := 19) hC [(6, va_rf v3), (5, va_rf v2), (4, va_rf v1), (0, .ref x0), (1, .int x1), (2, .int x2), (3, .int x3)] dX3_meet_19 (by decide) (by cases v2 <;> rfl) ?_
  refine mg_aloadQ (pc := 21) hC 2 dX3_meet_21 rfl ?_
  refine mg_ifnull (pc := 23) hC 36 dX3_meet_23 (by decide) (fun hq => ?_) (fun a4 hq => ?_)
  · subst hq
    refine mg_iconst (pc := 36) hC (-1 : Int32) dX3_meet_36 (by decide) ?_
    exact mg_iret (pc := 37) hC rfl dX3_meet_37
  · subst hq
    refine mg_aloadQ (pc := 26) hC 1 dX3_meet_26 rfl ?_
    refine mg_ifnull (pc := 28) hC 36 dX3_meet_28 (by decide) (fun hq => ?_) (fun a5 hq => ?_)
    · subst hq
      refine mg_iconst (pc := 36) hC (-1 : Int32) dX3_meet_36 (by decide) ?_
      exact mg_iret (pc := 37) hC rfl dX3_meet_37
    · subst hq
      refine mg_aloadQ (pc := 31) hC 0 dX3_meet_31 rfl ?_
      refine mg_ifnonnull (pc := 33) hC 38 dX3_meet_33 (by decide) (fun hq => ?_) (fun a6 hq => ?_)
      · subst hq
        refine mg_iconst (pc := 36) hC (-1 : Int32) dX3_meet_36 (by decide) ?_
        exact mg_iret (pc := 37) hC rfl dX3_meet_37
      · subst hq
        refine mg_aload (pc := 38) hC 2 dX3_meet_38 rfl ?_
        refine mg_getI (pc := 40) (ci := 2) (k := 2) hC mi_2 rfl (by decide) mw_76 dX3_meet_40 (fun v7 _ => ?_)
        refine mg_aload (pc := 43) hC 1 dX3_meet_43 rfl ?_
        refine mg_getI (pc := 45) (ci := 2) (k := 2) hC mi_2 rfl (by decide) mw_76 dX3_meet_45 (fun v8 _ => ?_)
        refine mg_mmax (pc := 48) hC dX3_meet_48 mw_171 mw_172 mw_4 mw_173 (Nat.le_of_ble_eq_true rfl) (Nat.le_of_ble_eq_true rfl) ?_
        refine mg_istore (pc := 51) hC [(7, .int (if v7 < v8 then v8 else v7)), (6, .ref a6), (5, .ref a5), (4, .ref a4), (0, .ref x0), (1, .int x1), (2, .int x2), (3, .int x3)] dX3_meet_51 (by decide) rfl ?_
        refine mg_aload (pc := 53) hC 3 dX3_meet_53 rfl ?_
        refine mg_aload (pc := 55) hC 2 dX3_meet_55 rfl ?_
        refine mg_aload (pc := 57) hC 1 dX3_meet_57 rfl ?_
        refine mg_iload (pc := 59) hC 0 dX3_meet_59 rfl ?_
        refine mg_cRI (pc := 61) (fun r hr => mg_S (rest := []) hC wdX3_agreeAhead mw_175 mw_174 dX3_meet_61 rfl rfl ⟨Nat.le_of_ble_eq_true rfl, Nat.le_of_ble_eq_true rfl⟩ (Nat.le_of_ble_eq_true rfl) (kX3_agreeAhead hr)) (fun v9 _ => ?_)
        refine mg_if_eq (pc := 64) hC 86 dX3_meet_64 (by decide) (fun _ => ?_) (fun _ => ?_)
        · exact mg_sub (pc := 86) [] (L' := []) rfl (gX3_meet_b86 hC _   _ _ _)
        · refine mg_aload_n (pc := 67) hC 4 dX3_meet_67 rfl ?_
          refine mg_aload (pc := 68) hC 3 dX3_meet_68 rfl ?_
          refine mg_aload (pc := 70) hC 2 dX3_meet_70 rfl ?_
          refine mg_aload (pc := 72) hC 1 dX3_meet_72 rfl ?_
          refine mg_iload (pc := 74) hC 0 dX3_meet_74 rfl ?_
          refine mg_recv (ci := 3) (fun hb => ?_)
          refine mg_cSI (pc := 76) (fun r hr => mg_VR (rest := []) (av := [.ref a4, .ref a5, .ref a6, .int (if v7 < v8 then v8 else v7)]) (ci := 3) hC wdX3_agreeInRings mw_180 dX3_meet_76 rfl rfl ⟨Nat.le_of_ble_eq_true rfl, Nat.le_of_ble_eq_true rfl⟩ (Nat.le_of_ble_eq_true rfl) hb (kX3_agreeInRings hr)) (fun v10 w11 _ => ?_)
          refine mg_if_eq (pc := 79) hC 86 dX3_meet_79 (by decide) (fun _ => ?_) (fun _ => ?_)
          · exact mg_sub (pc := 86) [] (L' := []) rfl (gX3_meet_b86 hC _   _ _ _)
          · refine mg_iconst (pc := 82) hC (1 : Int32) dX3_meet_82 (by decide) ?_
            refine mg_goto (pc := 83) hC 87 dX3_meet_83 (by decide) ?_
            exact mg_sub (pc := 87) [] (L' := []) rfl (gX3_meet_b87 hC _  _ _ _ _)
theorem wdX3_meet : mg_WdV 3 yX3_meet cX3_meet 8 (some .int) 3 := ⟨⟨mw_170, mw_1, by decide, by decide, by decide +kernel⟩, _, rfl, mw_168, mw_169⟩
def fX3_isPairedLength (x0 : Int32) : Option (Int32) := if x0 < (1 : Int32) then (some (0 : Int32)) else (if (8 : Int32) < x0 then (some (0 : Int32)) else (some (1 : Int32)))
set_option maxHeartbeats 4000000 in
set_option maxRecDepth 100000 in
theorem kX3_isPairedLength {E : mg_P} {l : Launch} {x0 : Int32} {w : mg_H} {sz : Nat} {o : Int32} (hf : fX3_isPairedLength x0 = some o) : mg_C E l yX3_isPairedLength cX3_isPairedLength 1 (some .boolean) 0 0 [.int x0] w sz ((mg_oR mg_vI w) o) := by
  refine mg_meth (out := (mg_oR mg_vI w)) (by decide) (Nat.le_of_ble_eq_true rfl) hf ?_
  intro p e C S s m below meth c hC hin
  have hC : mg_Cx E p s m _ meth c cX3_isPairedLength 1 (some .boolean) RX3 := hC
  unfold fX3_isPairedLength
  refine mg_sub (pc := 0) [0] (L' := [(0, .int x0)]) rfl ?_
  refine mg_iload_n (pc := 0) hC 0 dX3_isPairedLength_0 rfl ?_
  refine mg_iconst (pc := 1) hC (1 : Int32) dX3_isPairedLength_1 (by decide) ?_
  refine mg_icmp_lt (pc := 2) hC 15 dX3_isPairedLength_2 (by decide) (fun _ => ?_) (fun _ => ?_)
  · refine mg_iconst (pc := 15) hC (0 : Int32) dX3_isPairedLength_15 (by decide) ?_
    exact mg_zretC (pc := 16) hC (by decide) rfl dX3_isPairedLength_16
  · refine mg_iload_n (pc := 5) hC 0 dX3_isPairedLength_5 rfl ?_
    refine mg_bipush (pc := 6) hC (8 : Int32) dX3_isPairedLength_6 (by decide) ?_
    refine mg_icmp_gt (pc := 8) hC 15 dX3_isPairedLength_8 (by decide) (fun _ => ?_) (fun _ => ?_)
    · refine mg_iconst (pc := 15) hC (0 : Int32) dX3_isPairedLength_15 (by decide) ?_
      exact mg_zretC (pc := 16) hC (by decide) rfl dX3_isPairedLength_16
    · refine mg_iconst (pc := 11) hC (1 : Int32) dX3_isPairedLength_11 (by decide) ?_
      refine mg_goto (pc := 12) hC 16 dX3_isPairedLength_12 (by decide) ?_
      exact mg_zretC (pc := 16) hC (by decide) rfl dX3_isPairedLength_16
theorem wdX3_isPairedLength : mg_Wd yX3_isPairedLength cX3_isPairedLength 1 (some .boolean) 1 := ⟨mw_190, mw_1, by decide, by decide, by decide +kernel⟩
def fX3_known (x0 : Nat) (w : mg_H) (sz : Nat) : Option (Option Nat × mg_H × Nat × Nat) := (mg_gQ w 3 x0 4).bind fun v1 => mg_if0 v1 (mg_nw w sz 0 [.null, .null, .null, .int 0] 4 fun w3 => mg_bA (fX0_init sz w3 (sz + 1)) fun _ w5 kc6 ks7 => (mg_pQ w5 3 x0 4 (some sz)).bind fun w8 => (mg_gQ w8 3 x0 4).bind fun v9 => some (v9, w8, 0, 0)) (fun a2 => (mg_gQ w 3 x0 4).bind fun v10 => some (v10, w, 0, 0))
set_option maxHeartbeats 4000000 in
set_option maxRecDepth 100000 in
theorem kX3_known {E : mg_P} {l : Launch} {x0 : Nat} {w : mg_H} {sz : Nat} {o : Option Nat × mg_H × Nat × Nat} (hf : fX3_known x0 w sz = some o) : mg_C E l yX3_known cX3_known 1 (some (.object "MetAngles$Partners")) 4 96 [.ref x0] w sz ((mg_oA mg_vQ) o) := by
  refine mg_meth (out := (mg_oA mg_vQ)) (by decide) (Nat.le_of_ble_eq_true rfl) hf ?_
  intro p e C S s m below meth c hC hin
  have hC : mg_Cx E p s m _ meth c cX3_known 1 (some (.object "MetAngles$Partners")) RX3 := hC
  unfold fX3_known
  refine mg_sub (pc := 0) [0] (L' := [(0, .ref x0)]) rfl ?_
  refine mg_aload_n (pc := 0) hC 0 dX3_known_0 rfl ?_
  refine mg_getQ (pc := 1) (ci := 3) (k := 4) hC mi_3 rfl (by decide) mw_23 dX3_known_1 (fun v1 _ => ?_)
  refine mg_ifnonnull (pc := 4) hC 18 dX3_known_4 (by decide) (fun hq => ?_) (fun a2 hq => ?_)
  · subst hq
    refine mg_aload_n (pc := 7) hC 0 dX3_known_7 rfl ?_
    refine mg_newO (pc := 8) (ci := 0) hC mi_0 rfl tyX0 tyX0_ok [.null, .null, .null, .int 0] (fun j hj => by rcases (show j = 0 ∨ j = 1 ∨ j = 2 ∨ j = 3 by omega) with rfl | rfl | rfl | rfl <;> rfl) mw_195 mw_196 mw_5 dX3_known_8 ?_
    refine mg_dup (pc := 11) hC dX3_known_11 rfl ?_
    refine mg_cAV (pc := 12) (fun r hr => mg_I (rest := [.ref sz, .ref x0]) (av := []) hC wdX0_init mw_198 mw_197 dX3_known_12 rfl rfl ⟨Nat.le_of_ble_eq_true rfl, Nat.le_of_ble_eq_true rfl⟩ (Nat.le_of_ble_eq_true rfl) rfl (kX0_init hr)) (fun _ w5 kc6 ks7 _ => ?_)
    refine mg_putQ (pc := 15) (ci := 3) (k := 4) (v := (some sz)) hC mi_3 rfl (by decide) tyX3 tyX3_ok nmX3 mw_23 dX3_known_15 (Or.inl rfl) mg_rfO mg_ftO (fun w8 _ => ?_)
    refine mg_aload_n (pc := 18) hC 0 dX3_known_18 rfl ?_
    refine mg_getQ (pc := 19) (ci := 3) (k := 4) hC mi_3 rfl (by decide) mw_23 dX3_known_19 (fun v9 _ => ?_)
    exact mg_aret (pc := 22) (r := v9) hC rfl dX3_known_22
  · subst hq
    refine mg_aload_n (pc := 18) hC 0 dX3_known_18 rfl ?_
    refine mg_getQ (pc := 19) (ci := 3) (k := 4) hC mi_3 rfl (by decide) mw_23 dX3_known_19 (fun v10 _ => ?_)
    exact mg_aret (pc := 22) (r := v10) hC rfl dX3_known_22
theorem wdX3_known : mg_WdV 3 yX3_known cX3_known 1 (some (.object "MetAngles$Partners")) 0 := ⟨⟨mw_194, mw_1, by decide, by decide, by decide +kernel⟩, _, rfl, mw_193, mw_p6⟩
def fX3_pairs (x0 : Nat) (x1 : Int32) (w : mg_H) (sz : Nat) : Option (Int32 × mg_H × Nat × Nat) := (fX3_isPairedLength x1).bind fun v1 => if v1 = 0 then (some ((-1 : Int32), w, 0, 0)) else (mg_rc w 3 x0 (mg_bA (fX3_known x0 w sz) fun v2 w3 kc4 ks5 => mg_nn v2 fun a6 => mg_rc w3 0 a6 ((fX0_amountOf a6 x1 w3).bind fun v7 => some (v7, w3, 0, 0))))
set_option maxHeartbeats 4000000 in
set_option maxRecDepth 100000 in
theorem kX3_pairs {E : mg_P} {l : Launch} {x0 : Nat} {x1 : Int32} {w : mg_H} {sz : Nat} {o : Int32 × mg_H × Nat × Nat} (hf : fX3_pairs x0 x1 w sz = some o) : mg_C E l yX3_pairs cX3_pairs 2 (some .int) 5 116 [.ref x0, .int x1] w sz ((mg_oA mg_vI) o) := by
  refine mg_meth (out := (mg_oA mg_vI)) (by decide) (Nat.le_of_ble_eq_true rfl) hf ?_
  intro p e C S s m below meth c hC hin
  have hC : mg_Cx E p s m _ meth c cX3_pairs 2 (some .int) RX3 := hC
  unfold fX3_pairs
  refine mg_sub (pc := 0) [0, 1] (L' := [(0, .ref x0), (1, .int x1)]) rfl ?_
  refine mg_iload_n (pc := 0) hC 1 dX3_pairs_0 rfl ?_
  refine mg_cRI (pc := 1) (fun r hr => mg_S (rest := []) hC wdX3_isPairedLength mw_189 mw_188 dX3_pairs_1 rfl rfl ⟨Nat.le_of_ble_eq_true rfl, Nat.le_of_ble_eq_true rfl⟩ (Nat.le_of_ble_eq_true rfl) (kX3_isPairedLength hr)) (fun v1 _ => ?_)
  refine mg_if_ne (pc := 4) hC 9 dX3_pairs_4 (by decide) (fun _ => ?_) (fun _ => ?_)
  · refine mg_iconst (pc := 7) hC (-1 : Int32) dX3_pairs_7 (by decide) ?_
    exact mg_iret (pc := 8) hC rfl dX3_pairs_8
  · refine mg_aload_n (pc := 9) hC 0 dX3_pairs_9 rfl ?_
    refine mg_recv (ci := 3) (fun hb => ?_)
    refine mg_cAQ (pc := 10) (fun r hr => mg_VR (rest := []) (av := []) (ci := 3) hC wdX3_known mw_191 dX3_pairs_10 rfl rfl ⟨Nat.le_of_ble_eq_true rfl, Nat.le_of_ble_eq_true rfl⟩ (Nat.le_of_ble_eq_true rfl) hb (kX3_known hr)) (fun v2 w3 kc4 ks5 _ => ?_)
    refine mg_iload_n (pc := 13) hC 1 dX3_pairs_13 rfl ?_
    refine mg_deref (fun a6 hq => ?_)
    subst hq
    refine mg_recv (ci := 0) (fun hb => ?_)
    refine mg_cRI (pc := 14) (fun r hr => mg_VR (rest := []) (av := [.int x1]) (ci := 0) hC wdX0_amountOf mw_238 dX3_pairs_14 rfl rfl ⟨Nat.le_of_ble_eq_true rfl, Nat.le_of_ble_eq_true rfl⟩ (Nat.le_of_ble_eq_true rfl) hb (kX0_amountOf hr)) (fun v7 _ => ?_)
    exact mg_iret (pc := 17) hC rfl dX3_pairs_17
theorem wdX3_pairs : mg_WdV 3 yX3_pairs cX3_pairs 2 (some .int) 1 := ⟨⟨mw_187, mw_1, by decide, by decide, by decide +kernel⟩, _, rfl, mw_185, mw_186⟩
def fX3_pair (x0 : Nat) (x1 : Int32) (x2 : Int32) (x3 : Int32) (w : mg_H) (sz : Nat) : Option (Int32 × mg_H × Nat × Nat) := (fX3_isPairedLength x1).bind fun v1 => if v1 = 0 then (some ((-1 : Int32), w, 0, 0)) else ((fX3_isEither x3).bind fun v2 => if v2 = 0 then (some ((-1 : Int32), w, 0, 0)) else (if 0 ≤ x2 then (mg_rc w 3 x0 (mg_bA (fX3_known x0 w sz) fun v3 w4 kc5 ks6 => mg_nn v3 fun a7 => mg_rc w4 0 a7 ((fX0_amountOf a7 x1 w4).bind fun v8 => if x2 < v8 then (mg_rc w4 0 a7 ((fX0_amountUpTo a7 (x1 - (1 : Int32)) w4).bind fun v9 => mg_rc w4 0 a7 ((fX0_digitsOf a7 (v9 + x2) x3 x1 w4).bind fun v10 => some (v10, w4, 0, 0)))) else (some ((-4 : Int32), w4, 0, 0))))) else (some ((-1 : Int32), w, 0, 0))))
set_option maxHeartbeats 4000000 in
set_option maxRecDepth 100000 in
theorem kX3_pair {E : mg_P} {l : Launch} {x0 : Nat} {x1 : Int32} {x2 : Int32} {x3 : Int32} {w : mg_H} {sz : Nat} {o : Int32 × mg_H × Nat × Nat} (hf : fX3_pair x0 x1 x2 x3 w sz = some o) : mg_C E l yX3_pair cX3_pair 5 (some .int) 5 116 [.ref x0, .int x1, .int x2, .int x3] w sz ((mg_oA mg_vI) o) := by
  refine mg_meth (out := (mg_oA mg_vI)) (by decide) (Nat.le_of_ble_eq_true rfl) hf ?_
  intro p e C S s m below meth c hC hin
  have hC : mg_Cx E p s m _ meth c cX3_pair 5 (some .int) RX3 := hC
  unfold fX3_pair
  refine mg_sub (pc := 0) [0, 1, 2, 3] (L' := [(0, .ref x0), (1, .int x1), (2, .int x2), (3, .int x3)]) rfl ?_
  refine mg_iload_n (pc := 0) hC 1 dX3_pair_0 rfl ?_
  refine mg_cRI (pc := 1) (fun r hr => mg_S (rest := []) hC wdX3_isPairedLength mw_189 mw_188 dX3_pair_1 rfl rfl ⟨Nat.le_of_ble_eq_true rfl, Nat.le_of_ble_eq_true rfl⟩ (Nat.le_of_ble_eq_true rfl) (kX3_isPairedLength hr)) (fun v1 _ => ?_)
  refine mg_if_eq (pc := 4) hC 18 dX3_pair_4 (by decide) (fun _ => ?_) (fun _ => ?_)
  · refine mg_iconst (pc := 18) hC (-1 : Int32) dX3_pair_18 (by decide) ?_
    exact mg_iret (pc := 19) hC rfl dX3_pair_19
  · refine mg_iload_n (pc := 7) hC 3 dX3_pair_7 rfl ?_
    refine mg_cRI (pc := 8) (fun r hr => mg_S (rest := []) hC wdX3_isEither mw_108 mw_107 dX3_pair_8 rfl rfl ⟨Nat.le_of_ble_eq_true rfl, Nat.le_of_ble_eq_true rfl⟩ (Nat.le_of_ble_eq_true rfl) (kX3_isEither hr)) (fun v2 _ => ?_)
    refine mg_if_eq (pc := 11) hC 18 dX3_pair_11 (by decide) (fun _ => ?_) (fun _ => ?_)
    · refine mg_iconst (pc := 18) hC (-1 : Int32) dX3_pair_18 (by decide) ?_
      exact mg_iret (pc := 19) hC rfl dX3_pair_19
    · refine mg_iload_n (pc := 14) hC 2 dX3_pair_14 rfl ?_
      refine mg_if_ge (pc := 15) hC 20 dX3_pair_15 (by decide) (fun _ => ?_) (fun _ => ?_)
      · refine mg_aload_n (pc := 20) hC 0 dX3_pair_20 rfl ?_
        refine mg_recv (ci := 3) (fun hb => ?_)
        refine mg_cAQ (pc := 21) (fun r hr => mg_VR (rest := []) (av := []) (ci := 3) hC wdX3_known mw_191 dX3_pair_21 rfl rfl ⟨Nat.le_of_ble_eq_true rfl, Nat.le_of_ble_eq_true rfl⟩ (Nat.le_of_ble_eq_true rfl) hb (kX3_known hr)) (fun v3 w4 kc5 ks6 _ => ?_)
        refine mg_astoreQ (pc := 24) hC [(4, va_rf v3), (0, .ref x0), (1, .int x1), (2, .int x2), (3, .int x3)] dX3_pair_24 (by decide) rfl ?_
        refine mg_iload_n (pc := 26) hC 3 dX3_pair_26 rfl ?_
        refine mg_aloadQ (pc := 27) hC 0 dX3_pair_27 rfl ?_
        refine mg_iload_n (pc := 29) hC 2 dX3_pair_29 rfl ?_
        refine mg_deref (fun a7 hq => ?_)
        subst hq
        refine mg_recv (ci := 0) (fun hb => ?_)
        refine mg_cRI (pc := 30) (fun r hr => mg_VR (rest := [.int x2]) (av := [.int x1]) (ci := 0) hC wdX0_amountOf mw_238 dX3_pair_30 rfl rfl ⟨Nat.le_of_ble_eq_true rfl, Nat.le_of_ble_eq_true rfl⟩ (Nat.le_of_ble_eq_true rfl) hb (kX0_amountOf hr)) (fun v8 _ => ?_)
        refine mg_icmp_lt (pc := 33) hC 39 dX3_pair_33 (by decide) (fun _ => ?_) (fun _ => ?_)
        · refine mg_aload (pc := 39) hC 0 dX3_pair_39 rfl ?_
          refine mg_aload (pc := 41) hC 0 dX3_pair_41 rfl ?_
          refine mg_iload_n (pc := 43) hC 2 dX3_pair_43 rfl ?_
          refine mg_iconst (pc := 44) hC (1 : Int32) dX3_pair_44 (by decide) ?_
          refine mg_isub (pc := 45) hC dX3_pair_45 ?_
          refine mg_recv (ci := 0) (fun hb => ?_)
          refine mg_cRI (pc := 46) (fun r hr => mg_VR (rest := [.ref a7]) (av := [.int (x1 - (1 : Int32))]) (ci := 0) hC wdX0_amountUpTo mw_250 dX3_pair_46 rfl rfl ⟨Nat.le_of_ble_eq_true rfl, Nat.le_of_ble_eq_true rfl⟩ (Nat.le_of_ble_eq_true rfl) hb (kX0_amountUpTo hr)) (fun v9 _ => ?_)
          refine mg_iload_n (pc := 49) hC 3 dX3_pair_49 rfl ?_
          refine mg_iadd (pc := 50) hC dX3_pair_50 ?_
          refine mg_iload_n (pc := 51) hC 4 dX3_pair_51 rfl ?_
          refine mg_iload_n (pc := 52) hC 2 dX3_pair_52 rfl ?_
          refine mg_recv (ci := 0) (fun hb => ?_)
          refine mg_cRI (pc := 53) (fun r hr => mg_VR (rest := []) (av := [.int (v9 + x2), .int x3, .int x1]) (ci := 0) hC wdX0_digitsOf mw_251 dX3_pair_53 rfl rfl ⟨Nat.le_of_ble_eq_true rfl, Nat.le_of_ble_eq_true rfl⟩ (Nat.le_of_ble_eq_true rfl) hb (kX0_digitsOf hr)) (fun v10 _ => ?_)
          exact mg_iret (pc := 56) hC rfl dX3_pair_56
        · refine mg_bipush (pc := 36) hC (-4 : Int32) dX3_pair_36 (by decide) ?_
          exact mg_iret (pc := 38) hC rfl dX3_pair_38
      · refine mg_iconst (pc := 18) hC (-1 : Int32) dX3_pair_18 (by decide) ?_
        exact mg_iret (pc := 19) hC rfl dX3_pair_19
theorem wdX3_pair : mg_WdV 3 yX3_pair cX3_pair 5 (some .int) 3 := ⟨⟨mw_249, mw_1, by decide, by decide, by decide +kernel⟩, _, rfl, mw_247, mw_248⟩
def fX3_pairOf (x0 : Nat) (x1 : Nat) (w : mg_H) (sz : Nat) : Option (Int32 × mg_H × Nat × Nat) := mg_rc w 2 x1 ((fX2_comesBack x1 w).bind fun v1 => if v1 = 0 then (some ((-1 : Int32), w, 0, 0)) else ((mg_gI w 2 x1 3).bind fun v2 => (fX3_isPairedLength v2).bind fun v3 => if v3 = 0 then (some ((-1 : Int32), w, 0, 0)) else (mg_rc w 3 x0 (mg_bA (fX3_known x0 w sz) fun v4 w5 kc6 ks7 => mg_rc w5 2 x1 ((fX2_inParts x1 w5).bind fun v8 => mg_nn v4 fun a9 => mg_rc w5 0 a9 ((fX0_pairWith a9 v8 w5).bind fun v10 => some (v10, w5, 0, 0)))))))
set_option maxHeartbeats 4000000 in
set_option maxRecDepth 100000 in
theorem kX3_pairOf {E : mg_P} {l : Launch} {x0 : Nat} {x1 : Nat} {w : mg_H} {sz : Nat} {o : Int32 × mg_H × Nat × Nat} (hf : fX3_pairOf x0 x1 w sz = some o) : mg_C E l yX3_pairOf cX3_pairOf 2 (some .int) 5 116 [.ref x0, .ref x1] w sz ((mg_oA mg_vI) o) := by
  refine mg_meth (out := (mg_oA mg_vI)) (by decide) (Nat.le_of_ble_eq_true rfl) hf ?_
  intro p e C S s m below meth c hC hin
  have hC : mg_Cx E p s m _ meth c cX3_pairOf 2 (some .int) RX3 := hC
  unfold fX3_pairOf
  refine mg_sub (pc := 0) [0, 1] (L' := [(0, .ref x0), (1, .ref x1)]) rfl ?_
  refine mg_aload_n (pc := 0) hC 1 dX3_pairOf_0 rfl ?_
  refine mg_recv (ci := 2) (fun hb => ?_)
  refine mg_cRI (pc := 1) (fun r hr => mg_VR (rest := []) (av := []) (ci := 2) hC wdX2_comesBack mw_143 dX3_pairOf_1 rfl rfl ⟨Nat.le_of_ble_eq_true rfl, Nat.le_of_ble_eq_true rfl⟩ (Nat.le_of_ble_eq_true rfl) hb (kX2_comesBack hr)) (fun v1 _ => ?_)
  refine mg_if_eq (pc := 4) hC 31 dX3_pairOf_4 (by decide) (fun _ => ?_) (fun _ => ?_)
  · refine mg_iconst (pc := 31) hC (-1 : Int32) dX3_pairOf_31 (by decide) ?_
    exact mg_iret (pc := 32) hC rfl dX3_pairOf_32
  · refine mg_aload_n (pc := 7) hC 1 dX3_pairOf_7 rfl ?_
    refine mg_getI (pc := 8) (ci := 2) (k := 3) hC mi_2 rfl (by decide) mw_78 dX3_pairOf_8 (fun v2 _ => ?_)
    refine mg_cRI (pc := 11) (fun r hr => mg_S (rest := []) hC wdX3_isPairedLength mw_189 mw_188 dX3_pairOf_11 rfl rfl ⟨Nat.le_of_ble_eq_true rfl, Nat.le_of_ble_eq_true rfl⟩ (Nat.le_of_ble_eq_true rfl) (kX3_isPairedLength hr)) (fun v3 _ => ?_)
    refine mg_if_eq (pc := 14) hC 31 dX3_pairOf_14 (by decide) (fun _ => ?_) (fun _ => ?_)
    · refine mg_iconst (pc := 31) hC (-1 : Int32) dX3_pairOf_31 (by decide) ?_
      exact mg_iret (pc := 32) hC rfl dX3_pairOf_32
    · refine mg_aload_n (pc := 17) hC 0 dX3_pairOf_17 rfl ?_
      refine mg_recv (ci := 3) (fun hb => ?_)
      refine mg_cAQ (pc := 18) (fun r hr => mg_VR (rest := []) (av := []) (ci := 3) hC wdX3_known mw_191 dX3_pairOf_18 rfl rfl ⟨Nat.le_of_ble_eq_true rfl, Nat.le_of_ble_eq_true rfl⟩ (Nat.le_of_ble_eq_true rfl) hb (kX3_known hr)) (fun v4 w5 kc6 ks7 _ => ?_)
      refine mg_aload_n (pc := 21) hC 1 dX3_pairOf_21 rfl ?_
      refine mg_recv (ci := 2) (fun hb => ?_)
      refine mg_cRI (pc := 22) (fun r hr => mg_VR (rest := [va_rf v4]) (av := []) (ci := 2) hC wdX2_inParts mw_267 dX3_pairOf_22 rfl rfl ⟨Nat.le_of_ble_eq_true rfl, Nat.le_of_ble_eq_true rfl⟩ (by cases v4 <;> exact Nat.le_of_ble_eq_true rfl) hb (kX2_inParts hr)) (fun v8 _ => ?_)
      refine mg_deref (fun a9 hq => ?_)
      subst hq
      refine mg_recv (ci := 0) (fun hb => ?_)
      refine mg_cRI (pc := 25) (fun r hr => mg_VR (rest := []) (av := [.int v8]) (ci := 0) hC wdX0_pairWith mw_272 dX3_pairOf_25 rfl rfl ⟨Nat.le_of_ble_eq_true rfl, Nat.le_of_ble_eq_true rfl⟩ (Nat.le_of_ble_eq_true rfl) hb (kX0_pairWith hr)) (fun v10 _ => ?_)
      refine mg_goto (pc := 28) hC 32 dX3_pairOf_28 (by decide) ?_
      exact mg_iret (pc := 32) hC rfl dX3_pairOf_32
theorem wdX3_pairOf : mg_WdV 3 yX3_pairOf cX3_pairOf 2 (some .int) 1 := ⟨⟨mw_266, mw_1, by decide, by decide, by decide +kernel⟩, _, rfl, mw_265, mw_p11⟩
def fX3_partner (x0 : Nat) (x1 : Int32) (w : mg_H) (sz : Nat) : Option (Int32 × mg_H × Nat × Nat) := mg_rc w 3 x0 ((fX3_turnAt x0 x1 w).bind fun v1 => mg_if0 v1 (some ((-1 : Int32), w, 0, 0)) (fun a2 => mg_rc w 3 x0 (mg_bA (fX3_pairOf x0 a2 w sz) fun v3 w4 kc5 ks6 => if 0 ≤ v3 then (mg_rc w4 3 x0 (mg_bA (fX3_known x0 w4 (sz + kc5)) fun v7 w8 kc9 ks10 => mg_rc w8 2 a2 ((fX2_inParts a2 w8).bind fun v11 => mg_nn v7 fun a12 => mg_rc w8 0 a12 ((fX0_otherEnd a12 v3 v11 w8).bind fun v13 => mg_rc w8 3 x0 (mg_bA (fX3_keep x0 (v13.toInt64) (21082635 : Int64) w8 (sz + kc5 + kc9)) fun v14 w15 kc16 ks17 => some (v14, w15, 0, 0)))))) else (some ((-2 : Int32), w4, 0, 0)))))
set_option maxHeartbeats 4000000 in
set_option maxRecDepth 100000 in
theorem kX3_partner {E : mg_P} {l : Launch} {x0 : Nat} {x1 : Int32} {w : mg_H} {sz : Nat} {o : Int32 × mg_H × Nat × Nat} (hf : fX3_partner x0 x1 w sz = some o) : mg_C E l yX3_partner cX3_partner 4 (some .int) 6 137 [.ref x0, .int x1] w sz ((mg_oA mg_vI) o) := by
  refine mg_meth (out := (mg_oA mg_vI)) (by decide) (Nat.le_of_ble_eq_true rfl) hf ?_
  intro p e C S s m below meth c hC hin
  have hC : mg_Cx E p s m _ meth c cX3_partner 4 (some .int) RX3 := hC
  unfold fX3_partner
  refine mg_sub (pc := 0) [0, 1] (L' := [(0, .ref x0), (1, .int x1)]) rfl ?_
  refine mg_aload_n (pc := 0) hC 0 dX3_partner_0 rfl ?_
  refine mg_iload_n (pc := 1) hC 1 dX3_partner_1 rfl ?_
  refine mg_recv (ci := 3) (fun hb => ?_)
  refine mg_cRQ (pc := 2) (fun r hr => mg_VR (rest := []) (av := [.int x1]) (ci := 3) hC wdX3_turnAt mw_96 dX3_partner_2 rfl rfl ⟨Nat.le_of_ble_eq_true rfl, Nat.le_of_ble_eq_true rfl⟩ (Nat.le_of_ble_eq_true rfl) hb (kX3_turnAt hr)) (fun v1 _ => ?_)
  refine mg_astore_nQ (pc := 5) hC [(2, va_rf v1), (0, .ref x0), (1, .int x1)] dX3_partner_5 (by decide) rfl ?_
  refine mg_aload_nQ (pc := 6) hC 0 dX3_partner_6 rfl ?_
  refine mg_ifnonnull (pc := 7) hC 12 dX3_partner_7 (by decide) (fun hq => ?_) (fun a2 hq => ?_)
  · subst hq
    refine mg_iconst (pc := 10) hC (-1 : Int32) dX3_partner_10 (by decide) ?_
    exact mg_iret (pc := 11) hC rfl dX3_partner_11
  · subst hq
    refine mg_aload_n (pc := 12) hC 1 dX3_partner_12 rfl ?_
    refine mg_aload_n (pc := 13) hC 0 dX3_partner_13 rfl ?_
    refine mg_recv (ci := 3) (fun hb => ?_)
    refine mg_cAI (pc := 14) (fun r hr => mg_VR (rest := []) (av := [.ref a2]) (ci := 3) hC wdX3_pairOf mw_263 dX3_partner_14 rfl rfl ⟨Nat.le_of_ble_eq_true rfl, Nat.le_of_ble_eq_true rfl⟩ (Nat.le_of_ble_eq_true rfl) hb (kX3_pairOf hr)) (fun v3 w4 kc5 ks6 _ => ?_)
    refine mg_istore_n (pc := 17) hC [(3, .int v3), (2, .ref a2), (0, .ref x0), (1, .int x1)] dX3_partner_17 (by decide) rfl ?_
    refine mg_iload_n (pc := 18) hC 0 dX3_partner_18 rfl ?_
    refine mg_if_ge (pc := 19) hC 25 dX3_partner_19 (by decide) (fun _ => ?_) (fun _ => ?_)
    · refine mg_aload_n (pc := 25) hC 2 dX3_partner_25 rfl ?_
      refine mg_aload_n (pc := 26) hC 2 dX3_partner_26 rfl ?_
      refine mg_recv (ci := 3) (fun hb => ?_)
      refine mg_cAQ (pc := 27) (fun r hr => mg_VR (rest := [.ref x0]) (av := []) (ci := 3) hC wdX3_known mw_191 dX3_partner_27 rfl rfl ⟨Nat.le_of_ble_eq_true rfl, Nat.le_of_ble_eq_true rfl⟩ (Nat.le_of_ble_eq_true rfl) hb (kX3_known hr)) (fun v7 w8 kc9 ks10 _ => ?_)
      refine mg_iload_n (pc := 30) hC 0 dX3_partner_30 rfl ?_
      refine mg_aload_n (pc := 31) hC 1 dX3_partner_31 rfl ?_
      refine mg_recv (ci := 2) (fun hb => ?_)
      refine mg_cRI (pc := 32) (fun r hr => mg_VR (rest := [.int v3, va_rf v7, .ref x0]) (av := []) (ci := 2) hC wdX2_inParts mw_267 dX3_partner_32 rfl rfl ⟨Nat.le_of_ble_eq_true rfl, Nat.le_of_ble_eq_true rfl⟩ (by cases v7 <;> exact Nat.le_of_ble_eq_true rfl) hb (kX2_inParts hr)) (fun v11 _ => ?_)
      refine mg_deref (fun a12 hq => ?_)
      subst hq
      refine mg_recv (ci := 0) (fun hb => ?_)
      refine mg_cRI (pc := 35) (fun r hr => mg_VR (rest := [.ref x0]) (av := [.int v3, .int v11]) (ci := 0) hC wdX0_otherEnd mw_276 dX3_partner_35 rfl rfl ⟨Nat.le_of_ble_eq_true rfl, Nat.le_of_ble_eq_true rfl⟩ (Nat.le_of_ble_eq_true rfl) hb (kX0_otherEnd hr)) (fun v13 _ => ?_)
      refine mg_i2l (pc := 38) hC dX3_partner_38 ?_
      refine mg_ldc2 (pc := 39) hC (21082635 : Int64) dX3_partner_39 mw_280 ?_
      refine mg_recv (ci := 3) (fun hb => ?_)
      refine mg_cAI (pc := 42) (fun r hr => mg_VR (rest := []) (av := [.long (v13.toInt64), .long (21082635 : Int64)]) (ci := 3) hC wdX3_keep mw_41 dX3_partner_42 rfl rfl ⟨Nat.le_of_ble_eq_true rfl, Nat.le_of_ble_eq_true rfl⟩ (Nat.le_of_ble_eq_true rfl) hb (kX3_keep hr)) (fun v14 w15 kc16 ks17 _ => ?_)
      exact mg_iret (pc := 45) hC rfl dX3_partner_45
    · refine mg_bipush (pc := 22) hC (-2 : Int32) dX3_partner_22 (by decide) ?_
      exact mg_iret (pc := 24) hC rfl dX3_partner_24
theorem wdX3_partner : mg_WdV 3 yX3_partner cX3_partner 4 (some .int) 1 := ⟨⟨mw_262, mw_1, by decide, by decide, by decide +kernel⟩, _, rfl, mw_260, mw_261⟩
def fX3_held_b56 (r31 : Int32 → Nat → (Option Nat) → Int32 → Int32 → mg_H → Nat → Option (Int32 × mg_H × Nat × Nat)) (x2 : Int32) (x3 : Nat) (x4 : Nat) (x5 : Int32) (x6 : Int32) (w : mg_H) (sz : Nat) : Option (Int32 × mg_H × Nat × Nat) := r31 x2 x3 (some x4) x5 (x6 + (1 : Int32)) w sz
set_option maxHeartbeats 4000000 in
set_option maxRecDepth 100000 in
theorem gX3_held_b56 (hC : mg_Cx E p s m args meth c cX3_held 7 (some .int) RX3) (r31 : Int32 → Nat → (Option Nat) → Int32 → Int32 → mg_H → Nat → Option (Int32 × mg_H × Nat × Nat)) (hr31 : ∀ (z2 : Int32) (z3 : Nat) (z4 : Option Nat) (z5 : Int32) (z6 : Int32) (w : mg_H) (sz cells slots : Nat), mg_G E p l e ({ frames := 5, cells := C, slots := S, locals := 116 } : Room) s m args below meth c 7 (mg_oA mg_vI) (r31 z2 z3 z4 z5 z6 w sz) w sz cells slots 31 [(2, .int z2), (3, .ref z3), (4, va_rf z4), (5, .int z5), (6, .int z6)] []) (x2 : Int32) (x3 : Nat) (x4 : Nat) (x5 : Int32) (x6 : Int32) (w : mg_H) (sz : Nat) (cells slots : Nat) : mg_G E p l e ({ frames := 5, cells := C, slots := S, locals := 116 } : Room) s m args below meth c 7 (mg_oA mg_vI) (fX3_held_b56 r31 x2 x3 x4 x5 x6 w sz) w sz cells slots 56 [(2, .int x2), (3, .ref x3), (4, .ref x4), (5, .int x5), (6, .int x6)] [] := by
  unfold fX3_held_b56
  refine mg_iinc (pc := 56) hC 4 (x6 + (1 : Int32)) [(6, .int (x6 + (1 : Int32))), (2, .int x2), (3, .ref x3), (4, .ref x4), (5, .int x5)] dX3_held_56 rfl rfl (by decide) rfl ?_
  refine mg_goto (pc := 59) hC 31 dX3_held_59 (by decide) ?_
  exact mg_sub (pc := 31) [1, 2, 3, 4, 0] (L' := [(2, .int x2), (3, .ref x3), (4, va_rf (some x4)), (5, .int x5), (6, .int (x6 + (1 : Int32)))]) rfl (hr31 _ _ _ _ _ _ _ _ _)
def fX3_held_b31 : Nat → Int32 → Nat → (Option Nat) → Int32 → Int32 → mg_H → Nat → Option (Int32 × mg_H × Nat × Nat)
  | 0, _, _, _, _, _, _, _ => none
  | n + 1, x2, x3, x4, x5, x6, w, sz => mg_nn x4 fun a1 => mg_rc w 0 a1 ((fX0_amountUpTo a1 x2 w).bind fun v2 => if v2 ≤ x6 then (some (x5, w, 0, 0)) else (mg_rc w 0 a1 ((fX0_holdsTurn a1 x6 x3 w).bind fun v3 => if v3 = 0 then (fX3_held_b56 (fX3_held_b31 n) x2 x3 a1 x5 x6 w sz) else (fX3_held_b56 (fX3_held_b31 n) x2 x3 a1 (x5 + (1 : Int32)) x6 w sz))))
set_option maxHeartbeats 4000000 in
set_option maxRecDepth 100000 in
theorem gX3_held_b31 (hC : mg_Cx E p s m args meth c cX3_held 7 (some .int) RX3) : ∀ (n : Nat) (x2 : Int32) (x3 : Nat) (x4 : Option Nat) (x5 : Int32) (x6 : Int32) (w : mg_H) (sz : Nat) (cells slots : Nat), mg_G E p l e ({ frames := 5, cells := C, slots := S, locals := 116 } : Room) s m args below meth c 7 (mg_oA mg_vI) (fX3_held_b31 n x2 x3 x4 x5 x6 w sz) w sz cells slots 31 [(2, .int x2), (3, .ref x3), (4, va_rf x4), (5, .int x5), (6, .int x6)] [] := by
  intro n
  induction n with
  | zero => intros; exact fun o hf => by rw [fX3_held_b31] at hf; cases hf
  | succ n ih =>
    intro x2 x3 x4 x5 x6 w sz cells slots
    rw [fX3_held_b31]
    refine mg_iload (pc := 31) hC 4 dX3_held_31 rfl ?_
    refine mg_aloadQ (pc := 33) hC 2 dX3_held_33 rfl ?_
    refine mg_iload_n (pc := 35) hC 0 dX3_held_35 rfl ?_
    refine mg_deref (fun a1 hq => ?_)
    subst hq
    refine mg_recv (ci := 0) (fun hb => ?_)
    refine mg_cRI (pc := 36) (fun r hr => mg_VR (rest := [.int x6]) (av := [.int x2]) (ci := 0) hC wdX0_amountUpTo mw_250 dX3_held_36 rfl rfl ⟨Nat.le_of_ble_eq_true rfl, Nat.le_of_ble_eq_true rfl⟩ (Nat.le_of_ble_eq_true rfl) hb (kX0_amountUpTo hr)) (fun v2 _ => ?_)
    refine mg_icmp_ge (pc := 39) hC 62 dX3_held_39 (by decide) (fun _ => ?_) (fun _ => ?_)
    · refine mg_iload (pc := 62) hC 3 dX3_held_62 rfl ?_
      exact mg_iret (pc := 64) hC rfl dX3_held_64
    · refine mg_aload (pc := 42) hC 2 dX3_held_42 rfl ?_
      refine mg_iload (pc := 44) hC 4 dX3_held_44 rfl ?_
      refine mg_aload_n (pc := 46) hC 1 dX3_held_46 rfl ?_
      refine mg_recv (ci := 0) (fun hb => ?_)
      refine mg_cRI (pc := 47) (fun r hr => mg_VR (rest := []) (av := [.int x6, .ref x3]) (ci := 0) hC wdX0_holdsTurn mw_285 dX3_held_47 rfl rfl ⟨Nat.le_of_ble_eq_true rfl, Nat.le_of_ble_eq_true rfl⟩ (Nat.le_of_ble_eq_true rfl) hb (kX0_holdsTurn hr)) (fun v3 _ => ?_)
      refine mg_if_eq (pc := 50) hC 56 dX3_held_50 (by decide) (fun _ => ?_) (fun _ => ?_)
      · exact mg_sub (pc := 56) [0, 1, 2, 3, 4] (L' := [(2, .int x2), (3, .ref x3), (4, .ref a1), (5, .int x5), (6, .int x6)]) rfl (gX3_held_b56 hC  _ ih _ _ _ _ _ _ _ _ _)
      · refine mg_iinc (pc := 53) hC 3 (x5 + (1 : Int32)) [(5, .int (x5 + (1 : Int32))), (2, .int x2), (3, .ref x3), (4, .ref a1), (6, .int x6)] dX3_held_53 rfl rfl (by decide) rfl ?_
        exact mg_sub (pc := 56) [1, 2, 3, 0, 4] (L' := [(2, .int x2), (3, .ref x3), (4, .ref a1), (5, .int (x5 + (1 : Int32))), (6, .int x6)]) rfl (gX3_held_b56 hC  _ ih _ _ _ _ _ _ _ _ _)
def fX3_held (x0 : Nat) (x1 : Int32) (x2 : Int32) (w : mg_H) (sz : Nat) : Option (Int32 × mg_H × Nat × Nat) := mg_rc w 3 x0 ((fX3_turnAt x0 x1 w).bind fun v1 => mg_if0 v1 (some ((-1 : Int32), w, 0, 0)) (fun a2 => (fX3_isPairedLength x2).bind fun v3 => if v3 = 0 then (some ((-1 : Int32), w, 0, 0)) else (mg_rc w 3 x0 (mg_bA (fX3_known x0 w sz) fun v4 w5 kc6 ks7 => fX3_held_b31 mg_N x2 a2 v4 (0 : Int32) (0 : Int32) w5 (sz + kc6)))))
set_option maxHeartbeats 4000000 in
set_option maxRecDepth 100000 in
theorem kX3_held {E : mg_P} {l : Launch} {x0 : Nat} {x1 : Int32} {x2 : Int32} {w : mg_H} {sz : Nat} {o : Int32 × mg_H × Nat × Nat} (hf : fX3_held x0 x1 x2 w sz = some o) : mg_C E l yX3_held cX3_held 7 (some .int) 5 116 [.ref x0, .int x1, .int x2] w sz ((mg_oA mg_vI) o) := by
  refine mg_meth (out := (mg_oA mg_vI)) (by decide) (Nat.le_of_ble_eq_true rfl) hf ?_
  intro p e C S s m below meth c hC hin
  have hC : mg_Cx E p s m _ meth c cX3_held 7 (some .int) RX3 := hC
  unfold fX3_held
  refine mg_sub (pc := 0) [0, 1, 2] (L' := [(0, .ref x0), (1, .int x1), (2, .int x2)]) rfl ?_
  refine mg_aload_n (pc := 0) hC 0 dX3_held_0 rfl ?_
  refine mg_iload_n (pc := 1) hC 1 dX3_held_1 rfl ?_
  refine mg_recv (ci := 3) (fun hb => ?_)
  refine mg_cRQ (pc := 2) (fun r hr => mg_VR (rest := []) (av := [.int x1]) (ci := 3) hC wdX3_turnAt mw_96 dX3_held_2 rfl rfl ⟨Nat.le_of_ble_eq_true rfl, Nat.le_of_ble_eq_true rfl⟩ (Nat.le_of_ble_eq_true rfl) hb (kX3_turnAt hr)) (fun v1 _ => ?_)
  refine mg_astore_nQ (pc := 5) hC [(3, va_rf v1), (0, .ref x0), (1, .int x1), (2, .int x2)] dX3_held_5 (by decide) rfl ?_
  refine mg_aload_nQ (pc := 6) hC 0 dX3_held_6 rfl ?_
  refine mg_ifnull (pc := 7) hC 17 dX3_held_7 (by decide) (fun hq => ?_) (fun a2 hq => ?_)
  · subst hq
    refine mg_iconst (pc := 17) hC (-1 : Int32) dX3_held_17 (by decide) ?_
    exact mg_iret (pc := 18) hC rfl dX3_held_18
  · subst hq
    refine mg_iload_n (pc := 10) hC 3 dX3_held_10 rfl ?_
    refine mg_cRI (pc := 11) (fun r hr => mg_S (rest := []) hC wdX3_isPairedLength mw_189 mw_188 dX3_held_11 rfl rfl ⟨Nat.le_of_ble_eq_true rfl, Nat.le_of_ble_eq_true rfl⟩ (Nat.le_of_ble_eq_true rfl) (kX3_isPairedLength hr)) (fun v3 _ => ?_)
    refine mg_if_ne (pc := 14) hC 19 dX3_held_14 (by decide) (fun _ => ?_) (fun _ => ?_)
    · refine mg_iconst (pc := 17) hC (-1 : Int32) dX3_held_17 (by decide) ?_
      exact mg_iret (pc := 18) hC rfl dX3_held_18
    · refine mg_aload_n (pc := 19) hC 1 dX3_held_19 rfl ?_
      refine mg_recv (ci := 3) (fun hb => ?_)
      refine mg_cAQ (pc := 20) (fun r hr => mg_VR (rest := []) (av := []) (ci := 3) hC wdX3_known mw_191 dX3_held_20 rfl rfl ⟨Nat.le_of_ble_eq_true rfl, Nat.le_of_ble_eq_true rfl⟩ (Nat.le_of_ble_eq_true rfl) hb (kX3_known hr)) (fun v4 w5 kc6 ks7 _ => ?_)
      refine mg_astoreQ (pc := 23) hC [(4, va_rf v4), (3, .ref a2), (0, .ref x0), (1, .int x1), (2, .int x2)] dX3_held_23 (by decide) rfl ?_
      refine mg_iconst (pc := 25) hC (0 : Int32) dX3_held_25 (by decide) ?_
      refine mg_istore (pc := 26) hC [(5, .int (0 : Int32)), (4, va_rf v4), (3, .ref a2), (0, .ref x0), (1, .int x1), (2, .int x2)] dX3_held_26 (by decide) (by cases v4 <;> rfl) ?_
      refine mg_iconst (pc := 28) hC (0 : Int32) dX3_held_28 (by decide) ?_
      refine mg_istore (pc := 29) hC [(6, .int (0 : Int32)), (5, .int (0 : Int32)), (4, va_rf v4), (3, .ref a2), (0, .ref x0), (1, .int x1), (2, .int x2)] dX3_held_29 (by decide) rfl ?_
      exact mg_sub (pc := 31) [6, 3, 2, 1, 0] (L' := [(2, .int x2), (3, .ref a2), (4, va_rf v4), (5, .int (0 : Int32)), (6, .int (0 : Int32))]) rfl (gX3_held_b31 hC   _ _ _ _ _ _ _ _ _ _)
theorem wdX3_held : mg_WdV 3 yX3_held cX3_held 7 (some .int) 2 := ⟨⟨mw_284, mw_1, by decide, by decide, by decide +kernel⟩, _, rfl, mw_282, mw_283⟩
def fX3_holder_b82 (x4 : Int32) (x6 : Nat) (x7 : Int32) (w : mg_H) (sz : Nat) : Option (Int32 × mg_H × Nat × Nat) := if 0 ≤ x7 then (mg_rc w 0 x6 ((fX0_lengthOf x6 x7 w).bind fun v1 => if x4 = 0 then (some (v1, w, 0, 0)) else (mg_rc w 0 x6 ((fX0_amountUpTo x6 (v1 - (1 : Int32)) w).bind fun v2 => some ((x7 - v2), w, 0, 0))))) else (some ((-4 : Int32), w, 0, 0))
set_option maxHeartbeats 4000000 in
set_option maxRecDepth 100000 in
theorem gX3_holder_b82 (hC : mg_Cx E p s m args meth c cX3_holder 9 (some .int) RX3) (x4 : Int32) (x6 : Nat) (x7 : Int32) (w : mg_H) (sz : Nat) (cells slots : Nat) : mg_G E p l e ({ frames := 5, cells := C, slots := S, locals := 116 } : Room) s m args below meth c 9 (mg_oA mg_vI) (fX3_holder_b82 x4 x6 x7 w sz) w sz cells slots 82 [(4, .int x4), (6, .ref x6), (7, .int x7)] [] := by
  unfold fX3_holder_b82
  refine mg_iload (pc := 82) hC 2 dX3_holder_82 rfl ?_
  refine mg_if_ge (pc := 84) hC 90 dX3_holder_84 (by decide) (fun _ => ?_) (fun _ => ?_)
  · refine mg_aload (pc := 90) hC 1 dX3_holder_90 rfl ?_
    refine mg_iload (pc := 92) hC 2 dX3_holder_92 rfl ?_
    refine mg_recv (ci := 0) (fun hb => ?_)
    refine mg_cRI (pc := 94) (fun r hr => mg_VR (rest := []) (av := [.int x7]) (ci := 0) hC wdX0_lengthOf mw_298 dX3_holder_94 rfl rfl ⟨Nat.le_of_ble_eq_true rfl, Nat.le_of_ble_eq_true rfl⟩ (Nat.le_of_ble_eq_true rfl) hb (kX0_lengthOf hr)) (fun v1 _ => ?_)
    refine mg_istore (pc := 97) hC [(8, .int v1), (4, .int x4), (6, .ref x6), (7, .int x7)] dX3_holder_97 (by decide) rfl ?_
    refine mg_iload (pc := 99) hC 1 dX3_holder_99 rfl ?_
    refine mg_if_ne (pc := 101) hC 109 dX3_holder_101 (by decide) (fun _ => ?_) (fun _ => ?_)
    · refine mg_iload (pc := 104) hC 0 dX3_holder_104 rfl ?_
      refine mg_goto (pc := 106) hC 121 dX3_holder_106 (by decide) ?_
      exact mg_iret (pc := 121) hC rfl dX3_holder_121
    · refine mg_iload (pc := 109) hC 3 dX3_holder_109 rfl ?_
      refine mg_aload (pc := 111) hC 2 dX3_holder_111 rfl ?_
      refine mg_iload (pc := 113) hC 0 dX3_holder_113 rfl ?_
      refine mg_iconst (pc := 115) hC (1 : Int32) dX3_holder_115 (by decide) ?_
      refine mg_isub (pc := 116) hC dX3_holder_116 ?_
      refine mg_recv (ci := 0) (fun hb => ?_)
      refine mg_cRI (pc := 117) (fun r hr => mg_VR (rest := [.int x7]) (av := [.int (v1 - (1 : Int32))]) (ci := 0) hC wdX0_amountUpTo mw_250 dX3_holder_117 rfl rfl ⟨Nat.le_of_ble_eq_true rfl, Nat.le_of_ble_eq_true rfl⟩ (Nat.le_of_ble_eq_true rfl) hb (kX0_amountUpTo hr)) (fun v2 _ => ?_)
      refine mg_isub (pc := 120) hC dX3_holder_120 ?_
      exact mg_iret (pc := 121) hC rfl dX3_holder_121
  · refine mg_bipush (pc := 87) hC (-4 : Int32) dX3_holder_87 (by decide) ?_
    exact mg_iret (pc := 89) hC rfl dX3_holder_89
def fX3_holder_b53 : Nat → Int32 → Int32 → Int32 → Nat → Nat → Int32 → Int32 → mg_H → Nat → Option (Int32 × mg_H × Nat × Nat)
  | 0, _, _, _, _, _, _, _, _, _ => none
  | n + 1, x2, x3, x4, x5, x6, x7, x8, w, sz => if x3 ≤ x8 then (fX3_holder_b82 x4 x6 x7 w sz) else (if x7 < 0 then (fX3_holder_b82 x4 x6 x7 w sz) else (mg_rc w 0 x6 ((fX0_nextHolder x6 x5 x2 x7 w).bind fun v1 => fX3_holder_b53 n x2 x3 x4 x5 x6 v1 (x8 + (1 : Int32)) w sz)))
set_option maxHeartbeats 4000000 in
set_option maxRecDepth 100000 in
theorem gX3_holder_b53 (hC : mg_Cx E p s m args meth c cX3_holder 9 (some .int) RX3) : ∀ (n : Nat) (x2 : Int32) (x3 : Int32) (x4 : Int32) (x5 : Nat) (x6 : Nat) (x7 : Int32) (x8 : Int32) (w : mg_H) (sz : Nat) (cells slots : Nat), mg_G E p l e ({ frames := 5, cells := C, slots := S, locals := 116 } : Room) s m args below meth c 9 (mg_oA mg_vI) (fX3_holder_b53 n x2 x3 x4 x5 x6 x7 x8 w sz) w sz cells slots 53 [(2, .int x2), (3, .int x3), (4, .int x4), (5, .ref x5), (6, .ref x6), (7, .int x7), (8, .int x8)] [] := by
  intro n
  induction n with
  | zero => intros; exact fun o hf => by rw [fX3_holder_b53] at hf; cases hf
  | succ n ih =>
    intro x2 x3 x4 x5 x6 x7 x8 w sz cells slots
    rw [fX3_holder_b53]
    refine mg_iload (pc := 53) hC 6 dX3_holder_53 rfl ?_
    refine mg_iload_n (pc := 55) hC 1 dX3_holder_55 rfl ?_
    refine mg_icmp_ge (pc := 56) hC 82 dX3_holder_56 (by decide) (fun _ => ?_) (fun _ => ?_)
    · exact mg_sub (pc := 82) [2, 4, 5] (L' := [(4, .int x4), (6, .ref x6), (7, .int x7)]) rfl (gX3_holder_b82 hC   _ _ _ _ _ _ _)
    · refine mg_iload (pc := 59) hC 5 dX3_holder_59 rfl ?_
      refine mg_if_lt (pc := 61) hC 82 dX3_holder_61 (by decide) (fun _ => ?_) (fun _ => ?_)
      · exact mg_sub (pc := 82) [2, 4, 5] (L' := [(4, .int x4), (6, .ref x6), (7, .int x7)]) rfl (gX3_holder_b82 hC   _ _ _ _ _ _ _)
      · refine mg_aload (pc := 64) hC 4 dX3_holder_64 rfl ?_
        refine mg_aload (pc := 66) hC 3 dX3_holder_66 rfl ?_
        refine mg_iload_n (pc := 68) hC 0 dX3_holder_68 rfl ?_
        refine mg_iload (pc := 69) hC 5 dX3_holder_69 rfl ?_
        refine mg_recv (ci := 0) (fun hb => ?_)
        refine mg_cRI (pc := 71) (fun r hr => mg_VR (rest := []) (av := [.ref x5, .int x2, .int x7]) (ci := 0) hC wdX0_nextHolder mw_293 dX3_holder_71 rfl rfl ⟨Nat.le_of_ble_eq_true rfl, Nat.le_of_ble_eq_true rfl⟩ (Nat.le_of_ble_eq_true rfl) hb (kX0_nextHolder hr)) (fun v1 _ => ?_)
        refine mg_istore (pc := 74) hC [(7, .int v1), (2, .int x2), (3, .int x3), (4, .int x4), (5, .ref x5), (6, .ref x6), (8, .int x8)] dX3_holder_74 (by decide) rfl ?_
        refine mg_iinc (pc := 76) hC 6 (x8 + (1 : Int32)) [(8, .int (x8 + (1 : Int32))), (7, .int v1), (2, .int x2), (3, .int x3), (4, .int x4), (5, .ref x5), (6, .ref x6)] dX3_holder_76 rfl rfl (by decide) rfl ?_
        refine mg_goto (pc := 79) hC 53 dX3_holder_79 (by decide) ?_
        exact mg_sub (pc := 53) [2, 3, 4, 5, 6, 1, 0] (L' := [(2, .int x2), (3, .int x3), (4, .int x4), (5, .ref x5), (6, .ref x6), (7, .int v1), (8, .int (x8 + (1 : Int32)))]) rfl (ih _ _ _ _ _ _ _ _ _ _ _)
def fX3_holder (x0 : Nat) (x1 : Int32) (x2 : Int32) (x3 : Int32) (x4 : Int32) (w : mg_H) (sz : Nat) : Option (Int32 × mg_H × Nat × Nat) := mg_rc w 3 x0 ((fX3_turnAt x0 x1 w).bind fun v1 => mg_if0 v1 (some ((-1 : Int32), w, 0, 0)) (fun a2 => (fX3_isPairedLength x2).bind fun v3 => if v3 = 0 then (some ((-1 : Int32), w, 0, 0)) else ((fX3_isEither x4).bind fun v4 => if v4 = 0 then (some ((-1 : Int32), w, 0, 0)) else (if 0 ≤ x3 then (mg_rc w 3 x0 (mg_bA (fX3_known x0 w sz) fun v5 w6 kc7 ks8 => mg_nn v5 fun a9 => mg_rc w6 0 a9 ((fX0_nextHolder a9 a2 x2 (-1 : Int32) w6).bind fun v10 => fX3_holder_b53 mg_N x2 x3 x4 a2 a9 v10 (0 : Int32) w6 (sz + kc7)))) else (some ((-1 : Int32), w, 0, 0))))))
set_option maxHeartbeats 4000000 in
set_option maxRecDepth 100000 in
theorem kX3_holder {E : mg_P} {l : Launch} {x0 : Nat} {x1 : Int32} {x2 : Int32} {x3 : Int32} {x4 : Int32} {w : mg_H} {sz : Nat} {o : Int32 × mg_H × Nat × Nat} (hf : fX3_holder x0 x1 x2 x3 x4 w sz = some o) : mg_C E l yX3_holder cX3_holder 9 (some .int) 5 116 [.ref x0, .int x1, .int x2, .int x3, .int x4] w sz ((mg_oA mg_vI) o) := by
  refine mg_meth (out := (mg_oA mg_vI)) (by decide) (Nat.le_of_ble_eq_true rfl) hf ?_
  intro p e C S s m below meth c hC hin
  have hC : mg_Cx E p s m _ meth c cX3_holder 9 (some .int) RX3 := hC
  unfold fX3_holder
  refine mg_sub (pc := 0) [0, 1, 2, 3, 4] (L' := [(0, .ref x0), (1, .int x1), (2, .int x2), (3, .int x3), (4, .int x4)]) rfl ?_
  refine mg_aload_n (pc := 0) hC 0 dX3_holder_0 rfl ?_
  refine mg_iload_n (pc := 1) hC 1 dX3_holder_1 rfl ?_
  refine mg_recv (ci := 3) (fun hb => ?_)
  refine mg_cRQ (pc := 2) (fun r hr => mg_VR (rest := []) (av := [.int x1]) (ci := 3) hC wdX3_turnAt mw_96 dX3_holder_2 rfl rfl ⟨Nat.le_of_ble_eq_true rfl, Nat.le_of_ble_eq_true rfl⟩ (Nat.le_of_ble_eq_true rfl) hb (kX3_turnAt hr)) (fun v1 _ => ?_)
  refine mg_astoreQ (pc := 5) hC [(5, va_rf v1), (0, .ref x0), (1, .int x1), (2, .int x2), (3, .int x3), (4, .int x4)] dX3_holder_5 (by decide) rfl ?_
  refine mg_aloadQ (pc := 7) hC 0 dX3_holder_7 rfl ?_
  refine mg_ifnull (pc := 9) hC 31 dX3_holder_9 (by decide) (fun hq => ?_) (fun a2 hq => ?_)
  · subst hq
    refine mg_iconst (pc := 31) hC (-1 : Int32) dX3_holder_31 (by decide) ?_
    exact mg_iret (pc := 32) hC rfl dX3_holder_32
  · subst hq
    refine mg_iload_n (pc := 12) hC 3 dX3_holder_12 rfl ?_
    refine mg_cRI (pc := 13) (fun r hr => mg_S (rest := []) hC wdX3_isPairedLength mw_189 mw_188 dX3_holder_13 rfl rfl ⟨Nat.le_of_ble_eq_true rfl, Nat.le_of_ble_eq_true rfl⟩ (Nat.le_of_ble_eq_true rfl) (kX3_isPairedLength hr)) (fun v3 _ => ?_)
    refine mg_if_eq (pc := 16) hC 31 dX3_holder_16 (by decide) (fun _ => ?_) (fun _ => ?_)
    · refine mg_iconst (pc := 31) hC (-1 : Int32) dX3_holder_31 (by decide) ?_
      exact mg_iret (pc := 32) hC rfl dX3_holder_32
    · refine mg_iload (pc := 19) hC 5 dX3_holder_19 rfl ?_
      refine mg_cRI (pc := 21) (fun r hr => mg_S (rest := []) hC wdX3_isEither mw_108 mw_107 dX3_holder_21 rfl rfl ⟨Nat.le_of_ble_eq_true rfl, Nat.le_of_ble_eq_true rfl⟩ (Nat.le_of_ble_eq_true rfl) (kX3_isEither hr)) (fun v4 _ => ?_)
      refine mg_if_eq (pc := 24) hC 31 dX3_holder_24 (by decide) (fun _ => ?_) (fun _ => ?_)
      · refine mg_iconst (pc := 31) hC (-1 : Int32) dX3_holder_31 (by decide) ?_
        exact mg_iret (pc := 32) hC rfl dX3_holder_32
      · refine mg_iload_n (pc := 27) hC 4 dX3_holder_27 rfl ?_
        refine mg_if_ge (pc := 28) hC 33 dX3_holder_28 (by decide) (fun _ => ?_) (fun _ => ?_)
        · refine mg_aload_n (pc := 33) hC 1 dX3_holder_33 rfl ?_
          refine mg_recv (ci := 3) (fun hb => ?_)
          refine mg_cAQ (pc := 34) (fun r hr => mg_VR (rest := []) (av := []) (ci := 3) hC wdX3_known mw_191 dX3_holder_34 rfl rfl ⟨Nat.le_of_ble_eq_true rfl, Nat.le_of_ble_eq_true rfl⟩ (Nat.le_of_ble_eq_true rfl) hb (kX3_known hr)) (fun v5 w6 kc7 ks8 _ => ?_)
          refine mg_astoreQ (pc := 37) hC [(6, va_rf v5), (5, .ref a2), (0, .ref x0), (1, .int x1), (2, .int x2), (3, .int x3), (4, .int x4)] dX3_holder_37 (by decide) rfl ?_
          refine mg_aloadQ (pc := 39) hC 0 dX3_holder_39 rfl ?_
          refine mg_aload (pc := 41) hC 1 dX3_holder_41 rfl ?_
          refine mg_iload_n (pc := 43) hC 4 dX3_holder_43 rfl ?_
          refine mg_iconst (pc := 44) hC (-1 : Int32) dX3_holder_44 (by decide) ?_
          refine mg_deref (fun a9 hq => ?_)
          subst hq
          refine mg_recv (ci := 0) (fun hb => ?_)
          refine mg_cRI (pc := 45) (fun r hr => mg_VR (rest := []) (av := [.ref a2, .int x2, .int (-1 : Int32)]) (ci := 0) hC wdX0_nextHolder mw_293 dX3_holder_45 rfl rfl ⟨Nat.le_of_ble_eq_true rfl, Nat.le_of_ble_eq_true rfl⟩ (Nat.le_of_ble_eq_true rfl) hb (kX0_nextHolder hr)) (fun v10 _ => ?_)
          refine mg_istore (pc := 48) hC [(7, .int v10), (6, .ref a9), (5, .ref a2), (0, .ref x0), (1, .int x1), (2, .int x2), (3, .int x3), (4, .int x4)] dX3_holder_48 (by decide) rfl ?_
          refine mg_iconst (pc := 50) hC (0 : Int32) dX3_holder_50 (by decide) ?_
          refine mg_istore (pc := 51) hC [(8, .int (0 : Int32)), (7, .int v10), (6, .ref a9), (5, .ref a2), (0, .ref x0), (1, .int x1), (2, .int x2), (3, .int x3), (4, .int x4)] dX3_holder_51 (by decide) rfl ?_
          exact mg_sub (pc := 53) [6, 7, 8, 3, 2, 1, 0] (L' := [(2, .int x2), (3, .int x3), (4, .int x4), (5, .ref a2), (6, .ref a9), (7, .int v10), (8, .int (0 : Int32))]) rfl (gX3_holder_b53 hC   _ _ _ _ _ _ _ _ _ _ _ _)
        · refine mg_iconst (pc := 31) hC (-1 : Int32) dX3_holder_31 (by decide) ?_
          exact mg_iret (pc := 32) hC rfl dX3_holder_32
theorem wdX3_holder : mg_WdV 3 yX3_holder cX3_holder 9 (some .int) 4 := ⟨⟨mw_292, mw_1, by decide, by decide, by decide +kernel⟩, _, rfl, mw_290, mw_291⟩
def fX3_holds (x0 : Nat) (x1 : Int32) (x2 : Int32) (w : mg_H) (sz : Nat) : Option (Int32 × mg_H × Nat × Nat) := mg_rc w 3 x0 ((fX3_turnAt x0 x1 w).bind fun v1 => mg_rc w 3 x0 ((fX3_turnAt x0 x2 w).bind fun v2 => mg_if0 v1 (some ((-1 : Int32), w, 0, 0)) (fun a3 => mg_if0 v2 (some ((-1 : Int32), w, 0, 0)) (fun a4 => mg_rc w 3 x0 (mg_bA (fX3_pairOf x0 a3 w sz) fun v5 w6 kc7 ks8 => mg_rc w6 3 x0 (mg_bA (fX3_pairOf x0 a4 w6 (sz + kc7)) fun v9 w10 kc11 ks12 => if v5 < 0 then (some ((-2 : Int32), w10, 0, 0)) else (if 0 ≤ v9 then (mg_rc w10 3 x0 (mg_bA (fX3_known x0 w10 (sz + kc7 + kc11)) fun v13 w14 kc15 ks16 => mg_nn v13 fun a17 => mg_rc w14 0 a17 ((fX0_holdsPair a17 v5 v9 w14).bind fun v18 => (fX3_answer v18).bind fun v19 => some (v19, w14, 0, 0)))) else (some ((-2 : Int32), w10, 0, 0)))))))))
set_option maxHeartbeats 4000000 in
set_option maxRecDepth 100000 in
theorem kX3_holds {E : mg_P} {l : Launch} {x0 : Nat} {x1 : Int32} {x2 : Int32} {w : mg_H} {sz : Nat} {o : Int32 × mg_H × Nat × Nat} (hf : fX3_holds x0 x1 x2 w sz = some o) : mg_C E l yX3_holds cX3_holds 7 (some .int) 6 137 [.ref x0, .int x1, .int x2] w sz ((mg_oA mg_vI) o) := by
  refine mg_meth (out := (mg_oA mg_vI)) (by decide) (Nat.le_of_ble_eq_true rfl) hf ?_
  intro p e C S s m below meth c hC hin
  have hC : mg_Cx E p s m _ meth c cX3_holds 7 (some .int) RX3 := hC
  unfold fX3_holds
  refine mg_sub (pc := 0) [0, 1, 2] (L' := [(0, .ref x0), (1, .int x1), (2, .int x2)]) rfl ?_
  refine mg_aload_n (pc := 0) hC 0 dX3_holds_0 rfl ?_
  refine mg_iload_n (pc := 1) hC 1 dX3_holds_1 rfl ?_
  refine mg_recv (ci := 3) (fun hb => ?_)
  refine mg_cRQ (pc := 2) (fun r hr => mg_VR (rest := []) (av := [.int x1]) (ci := 3) hC wdX3_turnAt mw_96 dX3_holds_2 rfl rfl ⟨Nat.le_of_ble_eq_true rfl, Nat.le_of_ble_eq_true rfl⟩ (Nat.le_of_ble_eq_true rfl) hb (kX3_turnAt hr)) (fun v1 _ => ?_)
  refine mg_astore_nQ (pc := 5) hC [(3, va_rf v1), (0, .ref x0), (1, .int x1), (2, .int x2)] dX3_holds_5 (by decide) rfl ?_
  refine mg_aload_n (pc := 6) hC 1 dX3_holds_6 rfl ?_
  refine mg_iload_n (pc := 7) hC 3 dX3_holds_7 rfl ?_
  refine mg_recv (ci := 3) (fun hb => ?_)
  refine mg_cRQ (pc := 8) (fun r hr => mg_VR (rest := []) (av := [.int x2]) (ci := 3) hC wdX3_turnAt mw_96 dX3_holds_8 rfl rfl ⟨Nat.le_of_ble_eq_true rfl, Nat.le_of_ble_eq_true rfl⟩ (Nat.le_of_ble_eq_true rfl) hb (kX3_turnAt hr)) (fun v2 _ => ?_)
  refine mg_astoreQ (pc := 11) hC [(4, va_rf v2), (3, va_rf v1), (0, .ref x0), (1, .int x1), (2, .int x2)] dX3_holds_11 (by decide) (by cases v1 <;> rfl) ?_
  refine mg_aload_nQ (pc := 13) hC 1 dX3_holds_13 rfl ?_
  refine mg_ifnull (pc := 14) hC 22 dX3_holds_14 (by decide) (fun hq => ?_) (fun a3 hq => ?_)
  · subst hq
    refine mg_iconst (pc := 22) hC (-1 : Int32) dX3_holds_22 (by decide) ?_
    exact mg_iret (pc := 23) hC rfl dX3_holds_23
  · subst hq
    refine mg_aloadQ (pc := 17) hC 0 dX3_holds_17 rfl ?_
    refine mg_ifnonnull (pc := 19) hC 24 dX3_holds_19 (by decide) (fun hq => ?_) (fun a4 hq => ?_)
    · subst hq
      refine mg_iconst (pc := 22) hC (-1 : Int32) dX3_holds_22 (by decide) ?_
      exact mg_iret (pc := 23) hC rfl dX3_holds_23
    · subst hq
      refine mg_aload_n (pc := 24) hC 2 dX3_holds_24 rfl ?_
      refine mg_aload_n (pc := 25) hC 1 dX3_holds_25 rfl ?_
      refine mg_recv (ci := 3) (fun hb => ?_)
      refine mg_cAI (pc := 26) (fun r hr => mg_VR (rest := []) (av := [.ref a3]) (ci := 3) hC wdX3_pairOf mw_263 dX3_holds_26 rfl rfl ⟨Nat.le_of_ble_eq_true rfl, Nat.le_of_ble_eq_true rfl⟩ (Nat.le_of_ble_eq_true rfl) hb (kX3_pairOf hr)) (fun v5 w6 kc7 ks8 _ => ?_)
      refine mg_istore (pc := 29) hC [(5, .int v5), (4, .ref a4), (3, .ref a3), (0, .ref x0), (1, .int x1), (2, .int x2)] dX3_holds_29 (by decide) rfl ?_
      refine mg_aload_n (pc := 31) hC 3 dX3_holds_31 rfl ?_
      refine mg_aload (pc := 32) hC 1 dX3_holds_32 rfl ?_
      refine mg_recv (ci := 3) (fun hb => ?_)
      refine mg_cAI (pc := 34) (fun r hr => mg_VR (rest := []) (av := [.ref a4]) (ci := 3) hC wdX3_pairOf mw_263 dX3_holds_34 rfl rfl ⟨Nat.le_of_ble_eq_true rfl, Nat.le_of_ble_eq_true rfl⟩ (Nat.le_of_ble_eq_true rfl) hb (kX3_pairOf hr)) (fun v9 w10 kc11 ks12 _ => ?_)
      refine mg_istore (pc := 37) hC [(6, .int v9), (5, .int v5), (4, .ref a4), (3, .ref a3), (0, .ref x0), (1, .int x1), (2, .int x2)] dX3_holds_37 (by decide) rfl ?_
      refine mg_iload (pc := 39) hC 1 dX3_holds_39 rfl ?_
      refine mg_if_lt (pc := 41) hC 49 dX3_holds_41 (by decide) (fun _ => ?_) (fun _ => ?_)
      · refine mg_bipush (pc := 49) hC (-2 : Int32) dX3_holds_49 (by decide) ?_
        exact mg_iret (pc := 51) hC rfl dX3_holds_51
      · refine mg_iload (pc := 44) hC 0 dX3_holds_44 rfl ?_
        refine mg_if_ge (pc := 46) hC 52 dX3_holds_46 (by decide) (fun _ => ?_) (fun _ => ?_)
        · refine mg_aload_n (pc := 52) hC 4 dX3_holds_52 rfl ?_
          refine mg_recv (ci := 3) (fun hb => ?_)
          refine mg_cAQ (pc := 53) (fun r hr => mg_VR (rest := []) (av := []) (ci := 3) hC wdX3_known mw_191 dX3_holds_53 rfl rfl ⟨Nat.le_of_ble_eq_true rfl, Nat.le_of_ble_eq_true rfl⟩ (Nat.le_of_ble_eq_true rfl) hb (kX3_known hr)) (fun v13 w14 kc15 ks16 _ => ?_)
          refine mg_iload (pc := 56) hC 1 dX3_holds_56 rfl ?_
          refine mg_iload (pc := 58) hC 0 dX3_holds_58 rfl ?_
          refine mg_deref (fun a17 hq => ?_)
          subst hq
          refine mg_recv (ci := 0) (fun hb => ?_)
          refine mg_cRI (pc := 60) (fun r hr => mg_VR (rest := []) (av := [.int v5, .int v9]) (ci := 0) hC wdX0_holdsPair mw_306 dX3_holds_60 rfl rfl ⟨Nat.le_of_ble_eq_true rfl, Nat.le_of_ble_eq_true rfl⟩ (Nat.le_of_ble_eq_true rfl) hb (kX0_holdsPair hr)) (fun v18 _ => ?_)
          refine mg_cRI (pc := 63) (fun r hr => mg_S (rest := []) hC wdX3_answer mw_165 mw_164 dX3_holds_63 rfl rfl ⟨Nat.le_of_ble_eq_true rfl, Nat.le_of_ble_eq_true rfl⟩ (Nat.le_of_ble_eq_true rfl) (kX3_answer hr)) (fun v19 _ => ?_)
          exact mg_iret (pc := 66) hC rfl dX3_holds_66
        · refine mg_bipush (pc := 49) hC (-2 : Int32) dX3_holds_49 (by decide) ?_
          exact mg_iret (pc := 51) hC rfl dX3_holds_51
theorem wdX3_holds : mg_WdV 3 yX3_holds cX3_holds 7 (some .int) 2 := ⟨⟨mw_305, mw_1, by decide, by decide, by decide +kernel⟩, _, rfl, mw_303, mw_304⟩
def fX3_between (x0 : Nat) (x1 : Int32) (x2 : Int32) (x3 : Int32) (w : mg_H) (sz : Nat) : Option (Int32 × mg_H × Nat × Nat) := mg_rc w 3 x0 ((fX3_turnAt x0 x1 w).bind fun v1 => mg_rc w 3 x0 ((fX3_turnAt x0 x2 w).bind fun v2 => mg_if0 v1 (some ((-1 : Int32), w, 0, 0)) (fun a3 => mg_if0 v2 (some ((-1 : Int32), w, 0, 0)) (fun a4 => (fX3_isPairedLength x3).bind fun v5 => if v5 = 0 then (some ((-1 : Int32), w, 0, 0)) else (mg_rc w 3 x0 (mg_bA (fX3_pairOf x0 a3 w sz) fun v6 w7 kc8 ks9 => mg_rc w7 3 x0 (mg_bA (fX3_pairOf x0 a4 w7 (sz + kc8)) fun v10 w11 kc12 ks13 => if v6 < 0 then (some ((-2 : Int32), w11, 0, 0)) else (if 0 ≤ v10 then (mg_rc w11 3 x0 (mg_bA (fX3_known x0 w11 (sz + kc8 + kc12)) fun v14 w15 kc16 ks17 => mg_nn v14 fun a18 => mg_rc w15 0 a18 ((fX0_holdsPair a18 v6 v10 w15).bind fun v19 => if v19 = 0 then (mg_rc w15 0 a18 ((fX0_holdsPair a18 v10 v6 w15).bind fun v20 => if v20 = 0 then (some ((-2 : Int32), w15, 0, 0)) else (mg_rc w15 0 a18 ((fX0_amountBetween a18 v10 v6 x3 w15).bind fun v21 => some (v21, w15, 0, 0))))) else (mg_rc w15 0 a18 ((fX0_amountBetween a18 v6 v10 x3 w15).bind fun v22 => some (v22, w15, 0, 0)))))) else (some ((-2 : Int32), w11, 0, 0))))))))))
set_option maxHeartbeats 4000000 in
set_option maxRecDepth 100000 in
theorem kX3_between {E : mg_P} {l : Launch} {x0 : Nat} {x1 : Int32} {x2 : Int32} {x3 : Int32} {w : mg_H} {sz : Nat} {o : Int32 × mg_H × Nat × Nat} (hf : fX3_between x0 x1 x2 x3 w sz = some o) : mg_C E l yX3_between cX3_between 9 (some .int) 6 137 [.ref x0, .int x1, .int x2, .int x3] w sz ((mg_oA mg_vI) o) := by
  refine mg_meth (out := (mg_oA mg_vI)) (by decide) (Nat.le_of_ble_eq_true rfl) hf ?_
  intro p e C S s m below meth c hC hin
  have hC : mg_Cx E p s m _ meth c cX3_between 9 (some .int) RX3 := hC
  unfold fX3_between
  refine mg_sub (pc := 0) [0, 1, 2, 3] (L' := [(0, .ref x0), (1, .int x1), (2, .int x2), (3, .int x3)]) rfl ?_
  refine mg_aload_n (pc := 0) hC 0 dX3_between_0 rfl ?_
  refine mg_iload_n (pc := 1) hC 1 dX3_between_1 rfl ?_
  refine mg_recv (ci := 3) (fun hb => ?_)
  refine mg_cRQ (pc := 2) (fun r hr => mg_VR (rest := []) (av := [.int x1]) (ci := 3) hC wdX3_turnAt mw_96 dX3_between_2 rfl rfl ⟨Nat.le_of_ble_eq_true rfl, Nat.le_of_ble_eq_true rfl⟩ (Nat.le_of_ble_eq_true rfl) hb (kX3_turnAt hr)) (fun v1 _ => ?_)
  refine mg_astoreQ (pc := 5) hC [(4, va_rf v1), (0, .ref x0), (1, .int x1), (2, .int x2), (3, .int x3)] dX3_between_5 (by decide) rfl ?_
  refine mg_aload_n (pc := 7) hC 1 dX3_between_7 rfl ?_
  refine mg_iload_n (pc := 8) hC 3 dX3_between_8 rfl ?_
  refine mg_recv (ci := 3) (fun hb => ?_)
  refine mg_cRQ (pc := 9) (fun r hr => mg_VR (rest := []) (av := [.int x2]) (ci := 3) hC wdX3_turnAt mw_96 dX3_between_9 rfl rfl ⟨Nat.le_of_ble_eq_true rfl, Nat.le_of_ble_eq_true rfl⟩ (Nat.le_of_ble_eq_true rfl) hb (kX3_turnAt hr)) (fun v2 _ => ?_)
  refine mg_astoreQ (pc := 12) hC [(5, va_rf v2), (4, va_rf v1), (0, .ref x0), (1, .int x1), (2, .int x2), (3, .int x3)] dX3_between_12 (by decide) (by cases v1 <;> rfl) ?_
  refine mg_aloadQ (pc := 14) hC 1 dX3_between_14 rfl ?_
  refine mg_ifnull (pc := 16) hC 31 dX3_between_16 (by decide) (fun hq => ?_) (fun a3 hq => ?_)
  · subst hq
    refine mg_iconst (pc := 31) hC (-1 : Int32) dX3_between_31 (by decide) ?_
    exact mg_iret (pc := 32) hC rfl dX3_between_32
  · subst hq
    refine mg_aloadQ (pc := 19) hC 0 dX3_between_19 rfl ?_
    refine mg_ifnull (pc := 21) hC 31 dX3_between_21 (by decide) (fun hq => ?_) (fun a4 hq => ?_)
    · subst hq
      refine mg_iconst (pc := 31) hC (-1 : Int32) dX3_between_31 (by decide) ?_
      exact mg_iret (pc := 32) hC rfl dX3_between_32
    · subst hq
      refine mg_iload_n (pc := 24) hC 5 dX3_between_24 rfl ?_
      refine mg_cRI (pc := 25) (fun r hr => mg_S (rest := []) hC wdX3_isPairedLength mw_189 mw_188 dX3_between_25 rfl rfl ⟨Nat.le_of_ble_eq_true rfl, Nat.le_of_ble_eq_true rfl⟩ (Nat.le_of_ble_eq_true rfl) (kX3_isPairedLength hr)) (fun v5 _ => ?_)
      refine mg_if_ne (pc := 28) hC 33 dX3_between_28 (by decide) (fun _ => ?_) (fun _ => ?_)
      · refine mg_iconst (pc := 31) hC (-1 : Int32) dX3_between_31 (by decide) ?_
        exact mg_iret (pc := 32) hC rfl dX3_between_32
      · refine mg_aload_n (pc := 33) hC 2 dX3_between_33 rfl ?_
        refine mg_aload (pc := 34) hC 1 dX3_between_34 rfl ?_
        refine mg_recv (ci := 3) (fun hb => ?_)
        refine mg_cAI (pc := 36) (fun r hr => mg_VR (rest := []) (av := [.ref a3]) (ci := 3) hC wdX3_pairOf mw_263 dX3_between_36 rfl rfl ⟨Nat.le_of_ble_eq_true rfl, Nat.le_of_ble_eq_true rfl⟩ (Nat.le_of_ble_eq_true rfl) hb (kX3_pairOf hr)) (fun v6 w7 kc8 ks9 _ => ?_)
        refine mg_istore (pc := 39) hC [(6, .int v6), (5, .ref a4), (4, .ref a3), (0, .ref x0), (1, .int x1), (2, .int x2), (3, .int x3)] dX3_between_39 (by decide) rfl ?_
        refine mg_aload_n (pc := 41) hC 3 dX3_between_41 rfl ?_
        refine mg_aload (pc := 42) hC 1 dX3_between_42 rfl ?_
        refine mg_recv (ci := 3) (fun hb => ?_)
        refine mg_cAI (pc := 44) (fun r hr => mg_VR (rest := []) (av := [.ref a4]) (ci := 3) hC wdX3_pairOf mw_263 dX3_between_44 rfl rfl ⟨Nat.le_of_ble_eq_true rfl, Nat.le_of_ble_eq_true rfl⟩ (Nat.le_of_ble_eq_true rfl) hb (kX3_pairOf hr)) (fun v10 w11 kc12 ks13 _ => ?_)
        refine mg_istore (pc := 47) hC [(7, .int v10), (6, .int v6), (5, .ref a4), (4, .ref a3), (0, .ref x0), (1, .int x1), (2, .int x2), (3, .int x3)] dX3_between_47 (by decide) rfl ?_
        refine mg_iload (pc := 49) hC 1 dX3_between_49 rfl ?_
        refine mg_if_lt (pc := 51) hC 59 dX3_between_51 (by decide) (fun _ => ?_) (fun _ => ?_)
        · refine mg_bipush (pc := 59) hC (-2 : Int32) dX3_between_59 (by decide) ?_
          exact mg_iret (pc := 61) hC rfl dX3_between_61
        · refine mg_iload (pc := 54) hC 0 dX3_between_54 rfl ?_
          refine mg_if_ge (pc := 56) hC 62 dX3_between_56 (by decide) (fun _ => ?_) (fun _ => ?_)
          · refine mg_aload_n (pc := 62) hC 4 dX3_between_62 rfl ?_
            refine mg_recv (ci := 3) (fun hb => ?_)
            refine mg_cAQ (pc := 63) (fun r hr => mg_VR (rest := []) (av := []) (ci := 3) hC wdX3_known mw_191 dX3_between_63 rfl rfl ⟨Nat.le_of_ble_eq_true rfl, Nat.le_of_ble_eq_true rfl⟩ (Nat.le_of_ble_eq_true rfl) hb (kX3_known hr)) (fun v14 w15 kc16 ks17 _ => ?_)
            refine mg_astoreQ (pc := 66) hC [(8, va_rf v14), (7, .int v10), (6, .int v6), (5, .ref a4), (4, .ref a3), (0, .ref x0), (1, .int x1), (2, .int x2), (3, .int x3)] dX3_between_66 (by decide) rfl ?_
            refine mg_aloadQ (pc := 68) hC 0 dX3_between_68 rfl ?_
            refine mg_iload (pc := 70) hC 2 dX3_between_70 rfl ?_
            refine mg_iload (pc := 72) hC 1 dX3_between_72 rfl ?_
            refine mg_deref (fun a18 hq => ?_)
            subst hq
            refine mg_recv (ci := 0) (fun hb => ?_)
            refine mg_cRI (pc := 74) (fun r hr => mg_VR (rest := []) (av := [.int v6, .int v10]) (ci := 0) hC wdX0_holdsPair mw_306 dX3_between_74 rfl rfl ⟨Nat.le_of_ble_eq_true rfl, Nat.le_of_ble_eq_true rfl⟩ (Nat.le_of_ble_eq_true rfl) hb (kX0_holdsPair hr)) (fun v19 _ => ?_)
            refine mg_if_eq (pc := 77) hC 91 dX3_between_77 (by decide) (fun _ => ?_) (fun _ => ?_)
            · refine mg_aload (pc := 91) hC 0 dX3_between_91 rfl ?_
              refine mg_iload (pc := 93) hC 1 dX3_between_93 rfl ?_
              refine mg_iload (pc := 95) hC 2 dX3_between_95 rfl ?_
              refine mg_recv (ci := 0) (fun hb => ?_)
              refine mg_cRI (pc := 97) (fun r hr => mg_VR (rest := []) (av := [.int v10, .int v6]) (ci := 0) hC wdX0_holdsPair mw_306 dX3_between_97 rfl rfl ⟨Nat.le_of_ble_eq_true rfl, Nat.le_of_ble_eq_true rfl⟩ (Nat.le_of_ble_eq_true rfl) hb (kX0_holdsPair hr)) (fun v20 _ => ?_)
              refine mg_if_eq (pc := 100) hC 116 dX3_between_100 (by decide) (fun _ => ?_) (fun _ => ?_)
              · refine mg_bipush (pc := 116) hC (-2 : Int32) dX3_between_116 (by decide) ?_
                exact mg_iret (pc := 118) hC rfl dX3_between_118
              · refine mg_aload (pc := 103) hC 0 dX3_between_103 rfl ?_
                refine mg_iload (pc := 105) hC 1 dX3_between_105 rfl ?_
                refine mg_iload (pc := 107) hC 2 dX3_between_107 rfl ?_
                refine mg_iload_n (pc := 109) hC 8 dX3_between_109 rfl ?_
                refine mg_recv (ci := 0) (fun hb => ?_)
                refine mg_cRI (pc := 110) (fun r hr => mg_VR (rest := []) (av := [.int v10, .int v6, .int x3]) (ci := 0) hC wdX0_amountBetween mw_314 dX3_between_110 rfl rfl ⟨Nat.le_of_ble_eq_true rfl, Nat.le_of_ble_eq_true rfl⟩ (Nat.le_of_ble_eq_true rfl) hb (kX0_amountBetween hr)) (fun v21 _ => ?_)
                refine mg_goto (pc := 113) hC 118 dX3_between_113 (by decide) ?_
                exact mg_iret (pc := 118) hC rfl dX3_between_118
            · refine mg_aload (pc := 80) hC 0 dX3_between_80 rfl ?_
              refine mg_iload (pc := 82) hC 2 dX3_between_82 rfl ?_
              refine mg_iload (pc := 84) hC 1 dX3_between_84 rfl ?_
              refine mg_iload_n (pc := 86) hC 8 dX3_between_86 rfl ?_
              refine mg_recv (ci := 0) (fun hb => ?_)
              refine mg_cRI (pc := 87) (fun r hr => mg_VR (rest := []) (av := [.int v6, .int v10, .int x3]) (ci := 0) hC wdX0_amountBetween mw_314 dX3_between_87 rfl rfl ⟨Nat.le_of_ble_eq_true rfl, Nat.le_of_ble_eq_true rfl⟩ (Nat.le_of_ble_eq_true rfl) hb (kX0_amountBetween hr)) (fun v22 _ => ?_)
              exact mg_iret (pc := 90) hC rfl dX3_between_90
          · refine mg_bipush (pc := 59) hC (-2 : Int32) dX3_between_59 (by decide) ?_
            exact mg_iret (pc := 61) hC rfl dX3_between_61
theorem wdX3_between : mg_WdV 3 yX3_between cX3_between 9 (some .int) 3 := ⟨⟨mw_313, mw_1, by decide, by decide, by decide +kernel⟩, _, rfl, mw_311, mw_312⟩
end MG04
