section MG05
variable {E : mg_P} {p : Program} {l : Launch} {e : Env} {C S : Nat} {s : State} {m : MethodId} {args : Array Value} {below : List Frame} {meth : Method} {c : Code}
def fX3_wide_b70 (x0 : Nat) (x2 : Int32) (w : mg_H) (sz : Nat) : Option (Int32 × mg_H × Nat × Nat) := mg_rc w 3 x0 (mg_bS (fX3_justOfLength x0 x2 w) fun v1 w2 => some (v1, w2, 0, 0))
set_option maxHeartbeats 4000000 in
set_option maxRecDepth 100000 in
theorem gX3_wide_b70 (hC : mg_Cx E p s m args meth c cX3_wide 6 (some .int) RX3) (x0 : Nat) (x2 : Int32) (w : mg_H) (sz : Nat) (cells slots : Nat) : mg_G E p l e ({ frames := 6, cells := C, slots := S, locals := 137 } : Room) s m args below meth c 6 (mg_oA mg_vI) (fX3_wide_b70 x0 x2 w sz) w sz cells slots 70 [(0, .ref x0), (2, .int x2)] [] := by
  unfold fX3_wide_b70
  refine mg_aload_n (pc := 70) hC 0 dX3_wide_70 rfl ?_
  refine mg_iload_n (pc := 71) hC 1 dX3_wide_71 rfl ?_
  refine mg_recv (ci := 3) (fun hb => ?_)
  refine mg_cSI (pc := 72) (fun r hr => mg_VR (rest := []) (av := [.int x2]) (ci := 3) hC wdX3_justOfLength mw_123 dX3_wide_72 rfl rfl ⟨Nat.le_of_ble_eq_true rfl, Nat.le_of_ble_eq_true rfl⟩ (Nat.le_of_ble_eq_true rfl) hb (kX3_justOfLength hr)) (fun v1 w2 _ => ?_)
  exact mg_iret (pc := 75) hC rfl dX3_wide_75
def fX3_wide_b37 : Nat → Nat → Int32 → Int32 → Int32 → mg_H → Nat → Option (Int32 × mg_H × Nat × Nat)
  | 0, _, _, _, _, _, _ => none
  | n + 1, x0, x2, x4, x5, w, sz => if x2 < x5 then (fX3_wide_b70 x0 x2 w sz) else (mg_gN w 3 x0 2 fun v1 => mg_rc w 3 x0 (mg_bA (fX3_known x0 w sz) fun v2 w3 kc4 ks5 => (fX3_ones x5).bind fun v6 => mg_nn v2 fun a7 => mg_rc w3 0 a7 ((fX0_amountInside a7 x4 v6 w3).bind fun v8 => (mg_stI w3 v1 x5 v8).bind fun w9 => fX3_wide_b37 n x0 x2 x4 (x5 + (1 : Int32)) w9 (sz + kc4))))
set_option maxHeartbeats 4000000 in
set_option maxRecDepth 100000 in
theorem gX3_wide_b37 (hC : mg_Cx E p s m args meth c cX3_wide 6 (some .int) RX3) : ∀ (n : Nat) (x0 : Nat) (x2 : Int32) (x4 : Int32) (x5 : Int32) (w : mg_H) (sz : Nat) (cells slots : Nat), mg_G E p l e ({ frames := 6, cells := C, slots := S, locals := 137 } : Room) s m args below meth c 6 (mg_oA mg_vI) (fX3_wide_b37 n x0 x2 x4 x5 w sz) w sz cells slots 37 [(0, .ref x0), (2, .int x2), (4, .int x4), (5, .int x5)] [] := by
  intro n
  induction n with
  | zero => intros; exact fun o hf => by rw [fX3_wide_b37] at hf; cases hf
  | succ n ih =>
    intro x0 x2 x4 x5 w sz cells slots
    rw [fX3_wide_b37]
    refine mg_iload (pc := 37) hC 3 dX3_wide_37 rfl ?_
    refine mg_iload_n (pc := 39) hC 1 dX3_wide_39 rfl ?_
    refine mg_icmp_gt (pc := 40) hC 70 dX3_wide_40 (by decide) (fun _ => ?_) (fun _ => ?_)
    · exact mg_sub (pc := 70) [0, 1] (L' := [(0, .ref x0), (2, .int x2)]) rfl (gX3_wide_b70 hC   _ _ _ _ _ _)
    · refine mg_aload_n (pc := 43) hC 0 dX3_wide_43 rfl ?_
      refine mg_getNN (pc := 44) (ci := 3) (k := 2) hC mi_3 rfl (by decide) mw_21 dX3_wide_44 (fun v1 _ => ?_)
      refine mg_iload (pc := 47) hC 3 dX3_wide_47 rfl ?_
      refine mg_aload_n (pc := 49) hC 0 dX3_wide_49 rfl ?_
      refine mg_recv (ci := 3) (fun hb => ?_)
      refine mg_cAQ (pc := 50) (fun r hr => mg_VR (rest := [.int x5, .ref v1]) (av := []) (ci := 3) hC wdX3_known mw_191 dX3_wide_50 rfl rfl ⟨Nat.le_of_ble_eq_true rfl, Nat.le_of_ble_eq_true rfl⟩ (Nat.le_of_ble_eq_true rfl) hb (kX3_known hr)) (fun v2 w3 kc4 ks5 _ => ?_)
      refine mg_iload (pc := 53) hC 2 dX3_wide_53 rfl ?_
      refine mg_iload (pc := 55) hC 3 dX3_wide_55 rfl ?_
      refine mg_cRI (pc := 57) (fun r hr => mg_S (rest := [.int x4, va_rf v2, .int x5, .ref v1]) hC wdX3_ones mw_121 mw_120 dX3_wide_57 rfl rfl ⟨Nat.le_of_ble_eq_true rfl, Nat.le_of_ble_eq_true rfl⟩ (by cases v2 <;> exact Nat.le_of_ble_eq_true rfl) (kX3_ones hr)) (fun v6 _ => ?_)
      refine mg_deref (fun a7 hq => ?_)
      subst hq
      refine mg_recv (ci := 0) (fun hb => ?_)
      refine mg_cRI (pc := 60) (fun r hr => mg_VR (rest := [.int x5, .ref v1]) (av := [.int x4, .int v6]) (ci := 0) hC wdX0_amountInside mw_323 dX3_wide_60 rfl rfl ⟨Nat.le_of_ble_eq_true rfl, Nat.le_of_ble_eq_true rfl⟩ (Nat.le_of_ble_eq_true rfl) hb (kX0_amountInside hr)) (fun v8 _ => ?_)
      refine mg_iast (pc := 63) hC dX3_wide_63 (fun w9 _ => ?_)
      refine mg_iinc (pc := 64) hC 3 (x5 + (1 : Int32)) [(5, .int (x5 + (1 : Int32))), (0, .ref x0), (2, .int x2), (4, .int x4)] dX3_wide_64 rfl rfl (by decide) rfl ?_
      refine mg_goto (pc := 67) hC 37 dX3_wide_67 (by decide) ?_
      exact mg_sub (pc := 37) [1, 2, 3, 0] (L' := [(0, .ref x0), (2, .int x2), (4, .int x4), (5, .int (x5 + (1 : Int32)))]) rfl (ih _ _ _ _ _ _ _ _)
def fX3_wide (x0 : Nat) (x1 : Int32) (x2 : Int32) (w : mg_H) (sz : Nat) : Option (Int32 × mg_H × Nat × Nat) := mg_rc w 3 x0 ((fX3_turnAt x0 x1 w).bind fun v1 => mg_if0 v1 (some ((-1 : Int32), w, 0, 0)) (fun a2 => (fX3_isLength x2).bind fun v3 => if v3 = 0 then (some ((-1 : Int32), w, 0, 0)) else (mg_rc w 3 x0 (mg_bA (fX3_pairOf x0 a2 w sz) fun v4 w5 kc6 ks7 => if 0 ≤ v4 then (fX3_wide_b37 mg_N x0 x2 v4 (1 : Int32) w5 (sz + kc6)) else (some ((-2 : Int32), w5, 0, 0))))))
set_option maxHeartbeats 4000000 in
set_option maxRecDepth 100000 in
theorem kX3_wide {E : mg_P} {l : Launch} {x0 : Nat} {x1 : Int32} {x2 : Int32} {w : mg_H} {sz : Nat} {o : Int32 × mg_H × Nat × Nat} (hf : fX3_wide x0 x1 x2 w sz = some o) : mg_C E l yX3_wide cX3_wide 6 (some .int) 6 137 [.ref x0, .int x1, .int x2] w sz ((mg_oA mg_vI) o) := by
  refine mg_meth (out := (mg_oA mg_vI)) (by decide) (Nat.le_of_ble_eq_true rfl) hf ?_
  intro p e C S s m below meth c hC hin
  have hC : mg_Cx E p s m _ meth c cX3_wide 6 (some .int) RX3 := hC
  unfold fX3_wide
  refine mg_sub (pc := 0) [0, 1, 2] (L' := [(0, .ref x0), (1, .int x1), (2, .int x2)]) rfl ?_
  refine mg_aload_n (pc := 0) hC 0 dX3_wide_0 rfl ?_
  refine mg_iload_n (pc := 1) hC 1 dX3_wide_1 rfl ?_
  refine mg_recv (ci := 3) (fun hb => ?_)
  refine mg_cRQ (pc := 2) (fun r hr => mg_VR (rest := []) (av := [.int x1]) (ci := 3) hC wdX3_turnAt mw_96 dX3_wide_2 rfl rfl ⟨Nat.le_of_ble_eq_true rfl, Nat.le_of_ble_eq_true rfl⟩ (Nat.le_of_ble_eq_true rfl) hb (kX3_turnAt hr)) (fun v1 _ => ?_)
  refine mg_astore_nQ (pc := 5) hC [(3, va_rf v1), (0, .ref x0), (1, .int x1), (2, .int x2)] dX3_wide_5 (by decide) rfl ?_
  refine mg_aload_nQ (pc := 6) hC 0 dX3_wide_6 rfl ?_
  refine mg_ifnull (pc := 7) hC 17 dX3_wide_7 (by decide) (fun hq => ?_) (fun a2 hq => ?_)
  · subst hq
    refine mg_iconst (pc := 17) hC (-1 : Int32) dX3_wide_17 (by decide) ?_
    exact mg_iret (pc := 18) hC rfl dX3_wide_18
  · subst hq
    refine mg_iload_n (pc := 10) hC 3 dX3_wide_10 rfl ?_
    refine mg_cRI (pc := 11) (fun r hr => mg_S (rest := []) hC wdX3_isLength mw_118 mw_117 dX3_wide_11 rfl rfl ⟨Nat.le_of_ble_eq_true rfl, Nat.le_of_ble_eq_true rfl⟩ (Nat.le_of_ble_eq_true rfl) (kX3_isLength hr)) (fun v3 _ => ?_)
    refine mg_if_ne (pc := 14) hC 19 dX3_wide_14 (by decide) (fun _ => ?_) (fun _ => ?_)
    · refine mg_iconst (pc := 17) hC (-1 : Int32) dX3_wide_17 (by decide) ?_
      exact mg_iret (pc := 18) hC rfl dX3_wide_18
    · refine mg_aload_n (pc := 19) hC 1 dX3_wide_19 rfl ?_
      refine mg_aload_n (pc := 20) hC 0 dX3_wide_20 rfl ?_
      refine mg_recv (ci := 3) (fun hb => ?_)
      refine mg_cAI (pc := 21) (fun r hr => mg_VR (rest := []) (av := [.ref a2]) (ci := 3) hC wdX3_pairOf mw_263 dX3_wide_21 rfl rfl ⟨Nat.le_of_ble_eq_true rfl, Nat.le_of_ble_eq_true rfl⟩ (Nat.le_of_ble_eq_true rfl) hb (kX3_pairOf hr)) (fun v4 w5 kc6 ks7 _ => ?_)
      refine mg_istore (pc := 24) hC [(4, .int v4), (3, .ref a2), (0, .ref x0), (1, .int x1), (2, .int x2)] dX3_wide_24 (by decide) rfl ?_
      refine mg_iload (pc := 26) hC 0 dX3_wide_26 rfl ?_
      refine mg_if_ge (pc := 28) hC 34 dX3_wide_28 (by decide) (fun _ => ?_) (fun _ => ?_)
      · refine mg_iconst (pc := 34) hC (1 : Int32) dX3_wide_34 (by decide) ?_
        refine mg_istore (pc := 35) hC [(5, .int (1 : Int32)), (4, .int v4), (3, .ref a2), (0, .ref x0), (1, .int x1), (2, .int x2)] dX3_wide_35 (by decide) rfl ?_
        exact mg_sub (pc := 37) [3, 5, 1, 0] (L' := [(0, .ref x0), (2, .int x2), (4, .int v4), (5, .int (1 : Int32))]) rfl (gX3_wide_b37 hC   _ _ _ _ _ _ _ _ _)
      · refine mg_bipush (pc := 31) hC (-2 : Int32) dX3_wide_31 (by decide) ?_
        exact mg_iret (pc := 33) hC rfl dX3_wide_33
theorem wdX3_wide : mg_WdV 3 yX3_wide cX3_wide 6 (some .int) 2 := ⟨⟨mw_322, mw_1, by decide, by decide, by decide +kernel⟩, _, rfl, mw_320, mw_321⟩
def fX3_digit_b48 (w : mg_H) (s0 : Int32) : Option (Int32) := (fX3_answer s0).bind fun v1 => some v1
set_option maxHeartbeats 4000000 in
set_option maxRecDepth 100000 in
theorem gX3_digit_b48 (hC : mg_Cx E p s m args meth c cX3_digit 4 (some .int) RX3) (w : mg_H) (sz : Nat) (s0 : Int32) (cells slots : Nat) : mg_G E p l e ({ frames := 2, cells := C, slots := S, locals := 45 } : Room) s m args below meth c 4 (mg_oR mg_vI w) (fX3_digit_b48 w s0) w sz cells slots 48 [] [.int s0] := by
  unfold fX3_digit_b48
  refine mg_cRI (pc := 48) (fun r hr => mg_S (rest := []) hC wdX3_answer mw_165 mw_164 dX3_digit_48 rfl rfl ⟨Nat.le_of_ble_eq_true rfl, Nat.le_of_ble_eq_true rfl⟩ (Nat.le_of_ble_eq_true rfl) (kX3_answer hr)) (fun v1 _ => ?_)
  exact mg_iret (pc := 51) hC rfl dX3_digit_51
def fX3_digit (x0 : Nat) (x1 : Int32) (x2 : Int32) (w : mg_H) : Option (Int32) := mg_rc w 3 x0 ((fX3_turnAt x0 x1 w).bind fun v1 => mg_if0 v1 (some (-1 : Int32)) (fun a2 => (fX3_isDoublings x2).bind fun v3 => if v3 = 0 then (some (-1 : Int32)) else (mg_rc w 2 a2 ((fX2_comesBack a2 w).bind fun v4 => if v4 = 0 then (some (-2 : Int32)) else (mg_rc w 2 a2 ((fX2_upAfter a2 x2 w).bind fun v5 => (mg_gI w 2 a2 1).bind fun v6 => if ((2 : Int32) * v5) < v6 then (fX3_digit_b48 w (0 : Int32)) else (fX3_digit_b48 w (1 : Int32))))))))
set_option maxHeartbeats 4000000 in
set_option maxRecDepth 100000 in
theorem kX3_digit {E : mg_P} {l : Launch} {x0 : Nat} {x1 : Int32} {x2 : Int32} {w : mg_H} {sz : Nat} {o : Int32} (hf : fX3_digit x0 x1 x2 w = some o) : mg_C E l yX3_digit cX3_digit 4 (some .int) 2 45 [.ref x0, .int x1, .int x2] w sz ((mg_oR mg_vI w) o) := by
  refine mg_meth (out := (mg_oR mg_vI w)) (by decide) (Nat.le_of_ble_eq_true rfl) hf ?_
  intro p e C S s m below meth c hC hin
  have hC : mg_Cx E p s m _ meth c cX3_digit 4 (some .int) RX3 := hC
  unfold fX3_digit
  refine mg_sub (pc := 0) [0, 1, 2] (L' := [(0, .ref x0), (1, .int x1), (2, .int x2)]) rfl ?_
  refine mg_aload_n (pc := 0) hC 0 dX3_digit_0 rfl ?_
  refine mg_iload_n (pc := 1) hC 1 dX3_digit_1 rfl ?_
  refine mg_recv (ci := 3) (fun hb => ?_)
  refine mg_cRQ (pc := 2) (fun r hr => mg_VR (rest := []) (av := [.int x1]) (ci := 3) hC wdX3_turnAt mw_96 dX3_digit_2 rfl rfl ⟨Nat.le_of_ble_eq_true rfl, Nat.le_of_ble_eq_true rfl⟩ (Nat.le_of_ble_eq_true rfl) hb (kX3_turnAt hr)) (fun v1 _ => ?_)
  refine mg_astore_nQ (pc := 5) hC [(3, va_rf v1), (0, .ref x0), (1, .int x1), (2, .int x2)] dX3_digit_5 (by decide) rfl ?_
  refine mg_aload_nQ (pc := 6) hC 0 dX3_digit_6 rfl ?_
  refine mg_ifnull (pc := 7) hC 17 dX3_digit_7 (by decide) (fun hq => ?_) (fun a2 hq => ?_)
  · subst hq
    refine mg_iconst (pc := 17) hC (-1 : Int32) dX3_digit_17 (by decide) ?_
    exact mg_iret (pc := 18) hC rfl dX3_digit_18
  · subst hq
    refine mg_iload_n (pc := 10) hC 3 dX3_digit_10 rfl ?_
    refine mg_cRI (pc := 11) (fun r hr => mg_S (rest := []) hC wdX3_isDoublings mw_105 mw_104 dX3_digit_11 rfl rfl ⟨Nat.le_of_ble_eq_true rfl, Nat.le_of_ble_eq_true rfl⟩ (Nat.le_of_ble_eq_true rfl) (kX3_isDoublings hr)) (fun v3 _ => ?_)
    refine mg_if_ne (pc := 14) hC 19 dX3_digit_14 (by decide) (fun _ => ?_) (fun _ => ?_)
    · refine mg_iconst (pc := 17) hC (-1 : Int32) dX3_digit_17 (by decide) ?_
      exact mg_iret (pc := 18) hC rfl dX3_digit_18
    · refine mg_aload_n (pc := 19) hC 0 dX3_digit_19 rfl ?_
      refine mg_recv (ci := 2) (fun hb => ?_)
      refine mg_cRI (pc := 20) (fun r hr => mg_VR (rest := []) (av := []) (ci := 2) hC wdX2_comesBack mw_143 dX3_digit_20 rfl rfl ⟨Nat.le_of_ble_eq_true rfl, Nat.le_of_ble_eq_true rfl⟩ (Nat.le_of_ble_eq_true rfl) hb (kX2_comesBack hr)) (fun v4 _ => ?_)
      refine mg_if_ne (pc := 23) hC 29 dX3_digit_23 (by decide) (fun _ => ?_) (fun _ => ?_)
      · refine mg_bipush (pc := 26) hC (-2 : Int32) dX3_digit_26 (by decide) ?_
        exact mg_iret (pc := 28) hC rfl dX3_digit_28
      · refine mg_iconst (pc := 29) hC (2 : Int32) dX3_digit_29 (by decide) ?_
        refine mg_aload_n (pc := 30) hC 0 dX3_digit_30 rfl ?_
        refine mg_iload_n (pc := 31) hC 3 dX3_digit_31 rfl ?_
        refine mg_recv (ci := 2) (fun hb => ?_)
        refine mg_cRI (pc := 32) (fun r hr => mg_VR (rest := [.int (2 : Int32)]) (av := [.int x2]) (ci := 2) hC wdX2_upAfter mw_110 dX3_digit_32 rfl rfl ⟨Nat.le_of_ble_eq_true rfl, Nat.le_of_ble_eq_true rfl⟩ (Nat.le_of_ble_eq_true rfl) hb (kX2_upAfter hr)) (fun v5 _ => ?_)
        refine mg_imul (pc := 35) hC dX3_digit_35 ?_
        refine mg_aload_n (pc := 36) hC 0 dX3_digit_36 rfl ?_
        refine mg_getI (pc := 37) (ci := 2) (k := 1) hC mi_2 rfl (by decide) mw_73 dX3_digit_37 (fun v6 _ => ?_)
        refine mg_icmp_lt (pc := 40) hC 47 dX3_digit_40 (by decide) (fun _ => ?_) (fun _ => ?_)
        · refine mg_iconst (pc := 47) hC (0 : Int32) dX3_digit_47 (by decide) ?_
          exact mg_sub (pc := 48) [] (L' := []) rfl (gX3_digit_b48 hC _ _  _ _ _)
        · refine mg_iconst (pc := 43) hC (1 : Int32) dX3_digit_43 (by decide) ?_
          refine mg_goto (pc := 44) hC 48 dX3_digit_44 (by decide) ?_
          exact mg_sub (pc := 48) [] (L' := []) rfl (gX3_digit_b48 hC _ _  _ _ _)
theorem wdX3_digit : mg_WdV 3 yX3_digit cX3_digit 4 (some .int) 2 := ⟨⟨mw_330, mw_1, by decide, by decide, by decide +kernel⟩, _, rfl, mw_328, mw_329⟩
def fX3_pairForPutting (x0 : Nat) (x1 : Nat) (x2 : Nat) (w : mg_H) (sz : Nat) : Option (Int32 × mg_H × Nat × Nat) := mg_rc w 2 x2 ((fX2_comesBack x2 w).bind fun v1 => if v1 = 0 then (some ((-1 : Int32), w, 0, 0)) else ((mg_gI w 2 x1 0).bind fun v2 => if v2 = 0 then (some ((-1 : Int32), w, 0, 0)) else (mg_rc w 3 x0 (mg_bA (fX3_pairOf x0 x1 w sz) fun v3 w4 kc5 ks6 => some (v3, w4, 0, 0)))))
set_option maxHeartbeats 4000000 in
set_option maxRecDepth 100000 in
theorem kX3_pairForPutting {E : mg_P} {l : Launch} {x0 : Nat} {x1 : Nat} {x2 : Nat} {w : mg_H} {sz : Nat} {o : Int32 × mg_H × Nat × Nat} (hf : fX3_pairForPutting x0 x1 x2 w sz = some o) : mg_C E l yX3_pairForPutting cX3_pairForPutting 3 (some .int) 6 137 [.ref x0, .ref x1, .ref x2] w sz ((mg_oA mg_vI) o) := by
  refine mg_meth (out := (mg_oA mg_vI)) (by decide) (Nat.le_of_ble_eq_true rfl) hf ?_
  intro p e C S s m below meth c hC hin
  have hC : mg_Cx E p s m _ meth c cX3_pairForPutting 3 (some .int) RX3 := hC
  unfold fX3_pairForPutting
  refine mg_sub (pc := 0) [0, 1, 2] (L' := [(0, .ref x0), (1, .ref x1), (2, .ref x2)]) rfl ?_
  refine mg_aload_n (pc := 0) hC 2 dX3_pairForPutting_0 rfl ?_
  refine mg_recv (ci := 2) (fun hb => ?_)
  refine mg_cRI (pc := 1) (fun r hr => mg_VR (rest := []) (av := []) (ci := 2) hC wdX2_comesBack mw_143 dX3_pairForPutting_1 rfl rfl ⟨Nat.le_of_ble_eq_true rfl, Nat.le_of_ble_eq_true rfl⟩ (Nat.le_of_ble_eq_true rfl) hb (kX2_comesBack hr)) (fun v1 _ => ?_)
  refine mg_if_eq (pc := 4) hC 22 dX3_pairForPutting_4 (by decide) (fun _ => ?_) (fun _ => ?_)
  · refine mg_iconst (pc := 22) hC (-1 : Int32) dX3_pairForPutting_22 (by decide) ?_
    exact mg_iret (pc := 23) hC rfl dX3_pairForPutting_23
  · refine mg_aload_n (pc := 7) hC 1 dX3_pairForPutting_7 rfl ?_
    refine mg_getI (pc := 8) (ci := 2) (k := 0) hC mi_2 rfl (by decide) mw_70 dX3_pairForPutting_8 (fun v2 _ => ?_)
    refine mg_if_eq (pc := 11) hC 22 dX3_pairForPutting_11 (by decide) (fun _ => ?_) (fun _ => ?_)
    · refine mg_iconst (pc := 22) hC (-1 : Int32) dX3_pairForPutting_22 (by decide) ?_
      exact mg_iret (pc := 23) hC rfl dX3_pairForPutting_23
    · refine mg_aload_n (pc := 14) hC 0 dX3_pairForPutting_14 rfl ?_
      refine mg_aload_n (pc := 15) hC 1 dX3_pairForPutting_15 rfl ?_
      refine mg_recv (ci := 3) (fun hb => ?_)
      refine mg_cAI (pc := 16) (fun r hr => mg_VR (rest := []) (av := [.ref x1]) (ci := 3) hC wdX3_pairOf mw_263 dX3_pairForPutting_16 rfl rfl ⟨Nat.le_of_ble_eq_true rfl, Nat.le_of_ble_eq_true rfl⟩ (Nat.le_of_ble_eq_true rfl) hb (kX3_pairOf hr)) (fun v3 w4 kc5 ks6 _ => ?_)
      refine mg_goto (pc := 19) hC 23 dX3_pairForPutting_19 (by decide) ?_
      exact mg_iret (pc := 23) hC rfl dX3_pairForPutting_23
theorem wdX3_pairForPutting : mg_WdV 3 yX3_pairForPutting cX3_pairForPutting 3 (some .int) 2 := ⟨⟨mw_338, mw_1, by decide, by decide, by decide +kernel⟩, _, rfl, mw_337, mw_p12⟩
def fX3_put_b157 (x0 : Nat) (x3 : Nat) (x4 : Nat) (x8 : Int64) (w : mg_H) (sz : Nat) : Option (Int32 × mg_H × Nat × Nat) := (mg_gI w 2 x3 3).bind fun v1 => (mg_gI w 2 x4 3).bind fun v2 => (fX3_ones (v1 * v2)).bind fun v3 => mg_rc w 3 x0 (mg_bA (fX3_keep x0 x8 (v3.toInt64) w sz) fun v4 w5 kc6 ks7 => some (v4, w5, 0, 0))
set_option maxHeartbeats 4000000 in
set_option maxRecDepth 100000 in
theorem gX3_put_b157 (hC : mg_Cx E p s m args meth c cX3_put 12 (some .int) RX3) (x0 : Nat) (x3 : Nat) (x4 : Nat) (x8 : Int64) (w : mg_H) (sz : Nat) (cells slots : Nat) : mg_G E p l e ({ frames := 7, cells := C, slots := S, locals := 159 } : Room) s m args below meth c 12 (mg_oA mg_vI) (fX3_put_b157 x0 x3 x4 x8 w sz) w sz cells slots 157 [(0, .ref x0), (3, .ref x3), (4, .ref x4), (8, .long x8)] [] := by
  unfold fX3_put_b157
  refine mg_aload_n (pc := 157) hC 0 dX3_put_157 rfl ?_
  refine mg_lload (pc := 158) hC 3 dX3_put_158 rfl ?_
  refine mg_aload_n (pc := 160) hC 1 dX3_put_160 rfl ?_
  refine mg_getI (pc := 161) (ci := 2) (k := 3) hC mi_2 rfl (by decide) mw_78 dX3_put_161 (fun v1 _ => ?_)
  refine mg_aload (pc := 164) hC 2 dX3_put_164 rfl ?_
  refine mg_getI (pc := 166) (ci := 2) (k := 3) hC mi_2 rfl (by decide) mw_78 dX3_put_166 (fun v2 _ => ?_)
  refine mg_imul (pc := 169) hC dX3_put_169 ?_
  refine mg_cRI (pc := 170) (fun r hr => mg_S (rest := [.long x8, .ref x0]) hC wdX3_ones mw_121 mw_120 dX3_put_170 rfl rfl ⟨Nat.le_of_ble_eq_true rfl, Nat.le_of_ble_eq_true rfl⟩ (Nat.le_of_ble_eq_true rfl) (kX3_ones hr)) (fun v3 _ => ?_)
  refine mg_i2l (pc := 173) hC dX3_put_173 ?_
  refine mg_recv (ci := 3) (fun hb => ?_)
  refine mg_cAI (pc := 174) (fun r hr => mg_VR (rest := []) (av := [.long x8, .long (v3.toInt64)]) (ci := 3) hC wdX3_keep mw_41 dX3_put_174 rfl rfl ⟨Nat.le_of_ble_eq_true rfl, Nat.le_of_ble_eq_true rfl⟩ (Nat.le_of_ble_eq_true rfl) hb (kX3_keep hr)) (fun v4 w5 kc6 ks7 _ => ?_)
  exact mg_iret (pc := 177) hC rfl dX3_put_177
def fX3_put_b147 (r94 : Nat → Nat → Nat → Int32 → Int32 → Int64 → Int32 → mg_H → Nat → Option (Int32 × mg_H × Nat × Nat)) (x0 : Nat) (x3 : Nat) (x4 : Nat) (x6 : Int32) (x7 : Int32) (x10 : Int32) (s0 : Int32) (s1 : Int64) (w : mg_H) (sz : Nat) : Option (Int32 × mg_H × Nat × Nat) := r94 x0 x3 x4 x6 x7 (s1 + (s0.toInt64)) (x10 + (1 : Int32)) w sz
set_option maxHeartbeats 4000000 in
set_option maxRecDepth 100000 in
theorem gX3_put_b147 (hC : mg_Cx E p s m args meth c cX3_put 12 (some .int) RX3) (r94 : Nat → Nat → Nat → Int32 → Int32 → Int64 → Int32 → mg_H → Nat → Option (Int32 × mg_H × Nat × Nat)) (hr94 : ∀ (z0 : Nat) (z3 : Nat) (z4 : Nat) (z6 : Int32) (z7 : Int32) (z8 : Int64) (z10 : Int32) (w : mg_H) (sz cells slots : Nat), mg_G E p l e ({ frames := 7, cells := C, slots := S, locals := 159 } : Room) s m args below meth c 12 (mg_oA mg_vI) (r94 z0 z3 z4 z6 z7 z8 z10 w sz) w sz cells slots 94 [(0, .ref z0), (3, .ref z3), (4, .ref z4), (6, .int z6), (7, .int z7), (8, .long z8), (10, .int z10)] []) (x0 : Nat) (x3 : Nat) (x4 : Nat) (x6 : Int32) (x7 : Int32) (x10 : Int32) (s0 : Int32) (s1 : Int64) (w : mg_H) (sz : Nat) (cells slots : Nat) : mg_G E p l e ({ frames := 7, cells := C, slots := S, locals := 159 } : Room) s m args below meth c 12 (mg_oA mg_vI) (fX3_put_b147 r94 x0 x3 x4 x6 x7 x10 s0 s1 w sz) w sz cells slots 147 [(0, .ref x0), (3, .ref x3), (4, .ref x4), (6, .int x6), (7, .int x7), (10, .int x10)] [.int s0, .long s1] := by
  unfold fX3_put_b147
  refine mg_i2l (pc := 147) hC dX3_put_147 ?_
  refine mg_ladd (pc := 148) hC dX3_put_148 ?_
  refine mg_lstore (pc := 149) hC [(8, .long (s1 + (s0.toInt64))), (0, .ref x0), (3, .ref x3), (4, .ref x4), (6, .int x6), (7, .int x7), (10, .int x10)] dX3_put_149 (by decide) rfl ?_
  refine mg_iinc (pc := 151) hC 6 (x10 + (1 : Int32)) [(10, .int (x10 + (1 : Int32))), (8, .long (s1 + (s0.toInt64))), (0, .ref x0), (3, .ref x3), (4, .ref x4), (6, .int x6), (7, .int x7)] dX3_put_151 rfl rfl (by decide) rfl ?_
  refine mg_goto (pc := 154) hC 94 dX3_put_154 (by decide) ?_
  exact mg_sub (pc := 94) [2, 3, 4, 5, 6, 1, 0] (L' := [(0, .ref x0), (3, .ref x3), (4, .ref x4), (6, .int x6), (7, .int x7), (8, .long (s1 + (s0.toInt64))), (10, .int (x10 + (1 : Int32)))]) rfl (hr94 _ _ _ _ _ _ _ _ _ _ _)
def fX3_put_b126 (r94 : Nat → Nat → Nat → Int32 → Int32 → Int64 → Int32 → mg_H → Nat → Option (Int32 × mg_H × Nat × Nat)) (x0 : Nat) (x3 : Nat) (x4 : Nat) (x6 : Int32) (x7 : Int32) (x8 : Int64) (x10 : Int32) (s0 : Int32) (w : mg_H) (sz : Nat) : Option (Int32 × mg_H × Nat × Nat) := (mg_gI w 2 x3 3).bind fun v1 => if s0 = 0 then (fX3_put_b147 r94 x0 x3 x4 x6 x7 x10 x7 (x8 <<< (v1.toInt64 &&& 63)) w sz) else (fX3_put_b147 r94 x0 x3 x4 x6 x7 x10 x6 (x8 <<< (v1.toInt64 &&& 63)) w sz)
set_option maxHeartbeats 4000000 in
set_option maxRecDepth 100000 in
theorem gX3_put_b126 (hC : mg_Cx E p s m args meth c cX3_put 12 (some .int) RX3) (r94 : Nat → Nat → Nat → Int32 → Int32 → Int64 → Int32 → mg_H → Nat → Option (Int32 × mg_H × Nat × Nat)) (hr94 : ∀ (z0 : Nat) (z3 : Nat) (z4 : Nat) (z6 : Int32) (z7 : Int32) (z8 : Int64) (z10 : Int32) (w : mg_H) (sz cells slots : Nat), mg_G E p l e ({ frames := 7, cells := C, slots := S, locals := 159 } : Room) s m args below meth c 12 (mg_oA mg_vI) (r94 z0 z3 z4 z6 z7 z8 z10 w sz) w sz cells slots 94 [(0, .ref z0), (3, .ref z3), (4, .ref z4), (6, .int z6), (7, .int z7), (8, .long z8), (10, .int z10)] []) (x0 : Nat) (x3 : Nat) (x4 : Nat) (x6 : Int32) (x7 : Int32) (x8 : Int64) (x10 : Int32) (s0 : Int32) (w : mg_H) (sz : Nat) (cells slots : Nat) : mg_G E p l e ({ frames := 7, cells := C, slots := S, locals := 159 } : Room) s m args below meth c 12 (mg_oA mg_vI) (fX3_put_b126 r94 x0 x3 x4 x6 x7 x8 x10 s0 w sz) w sz cells slots 126 [(0, .ref x0), (3, .ref x3), (4, .ref x4), (6, .int x6), (7, .int x7), (8, .long x8), (10, .int x10)] [.int s0] := by
  unfold fX3_put_b126
  refine mg_istore (pc := 126) hC [(11, .int s0), (0, .ref x0), (3, .ref x3), (4, .ref x4), (6, .int x6), (7, .int x7), (8, .long x8), (10, .int x10)] dX3_put_126 (by decide) rfl ?_
  refine mg_lload (pc := 128) hC 6 dX3_put_128 rfl ?_
  refine mg_aload_n (pc := 130) hC 2 dX3_put_130 rfl ?_
  refine mg_getI (pc := 131) (ci := 2) (k := 3) hC mi_2 rfl (by decide) mw_78 dX3_put_131 (fun v1 _ => ?_)
  refine mg_lshl (pc := 134) hC dX3_put_134 ?_
  refine mg_iload (pc := 135) hC 0 dX3_put_135 rfl ?_
  refine mg_if_eq (pc := 137) hC 145 dX3_put_137 (by decide) (fun _ => ?_) (fun _ => ?_)
  · refine mg_iload (pc := 145) hC 5 dX3_put_145 rfl ?_
    exact mg_sub (pc := 147) [1, 2, 3, 4, 5, 7] (L' := [(0, .ref x0), (3, .ref x3), (4, .ref x4), (6, .int x6), (7, .int x7), (10, .int x10)]) rfl (gX3_put_b147 hC  _ hr94 _ _ _ _ _ _ _ _ _ _ _ _)
  · refine mg_iload (pc := 140) hC 4 dX3_put_140 rfl ?_
    refine mg_goto (pc := 142) hC 147 dX3_put_142 (by decide) ?_
    exact mg_sub (pc := 147) [1, 2, 3, 4, 5, 7] (L' := [(0, .ref x0), (3, .ref x3), (4, .ref x4), (6, .int x6), (7, .int x7), (10, .int x10)]) rfl (gX3_put_b147 hC  _ hr94 _ _ _ _ _ _ _ _ _ _ _ _)
def fX3_put_b94 : Nat → Nat → Nat → Nat → Int32 → Int32 → Int64 → Int32 → mg_H → Nat → Option (Int32 × mg_H × Nat × Nat)
  | 0, _, _, _, _, _, _, _, _, _ => none
  | n + 1, x0, x3, x4, x6, x7, x8, x10, w, sz => (mg_gI w 2 x4 3).bind fun v1 => if v1 ≤ x10 then (fX3_put_b157 x0 x3 x4 x8 w sz) else (mg_rc w 2 x4 ((fX2_upAfter x4 x10 w).bind fun v2 => (mg_gI w 2 x4 1).bind fun v3 => if v3 ≤ ((2 : Int32) * v2) then (fX3_put_b126 (fX3_put_b94 n) x0 x3 x4 x6 x7 x8 x10 (0 : Int32) w sz) else (fX3_put_b126 (fX3_put_b94 n) x0 x3 x4 x6 x7 x8 x10 (1 : Int32) w sz)))
set_option maxHeartbeats 4000000 in
set_option maxRecDepth 100000 in
theorem gX3_put_b94 (hC : mg_Cx E p s m args meth c cX3_put 12 (some .int) RX3) : ∀ (n : Nat) (x0 : Nat) (x3 : Nat) (x4 : Nat) (x6 : Int32) (x7 : Int32) (x8 : Int64) (x10 : Int32) (w : mg_H) (sz : Nat) (cells slots : Nat), mg_G E p l e ({ frames := 7, cells := C, slots := S, locals := 159 } : Room) s m args below meth c 12 (mg_oA mg_vI) (fX3_put_b94 n x0 x3 x4 x6 x7 x8 x10 w sz) w sz cells slots 94 [(0, .ref x0), (3, .ref x3), (4, .ref x4), (6, .int x6), (7, .int x7), (8, .long x8), (10, .int x10)] [] := by
  intro n
  induction n with
  | zero => intros; exact fun o hf => by rw [fX3_put_b94] at hf; cases hf
  | succ n ih =>
    intro x0 x3 x4 x6 x7 x8 x10 w sz cells slots
    rw [fX3_put_b94]
    refine mg_iload (pc := 94) hC 6 dX3_put_94 rfl ?_
    refine mg_aload (pc := 96) hC 2 dX3_put_96 rfl ?_
    refine mg_getI (pc := 98) (ci := 2) (k := 3) hC mi_2 rfl (by decide) mw_78 dX3_put_98 (fun v1 _ => ?_)
    refine mg_icmp_ge (pc := 101) hC 157 dX3_put_101 (by decide) (fun _ => ?_) (fun _ => ?_)
    · exact mg_sub (pc := 157) [0, 1, 2, 5] (L' := [(0, .ref x0), (3, .ref x3), (4, .ref x4), (8, .long x8)]) rfl (gX3_put_b157 hC   _ _ _ _ _ _ _ _)
    · refine mg_iconst (pc := 104) hC (2 : Int32) dX3_put_104 (by decide) ?_
      refine mg_aload (pc := 105) hC 2 dX3_put_105 rfl ?_
      refine mg_iload (pc := 107) hC 6 dX3_put_107 rfl ?_
      refine mg_recv (ci := 2) (fun hb => ?_)
      refine mg_cRI (pc := 109) (fun r hr => mg_VR (rest := [.int (2 : Int32)]) (av := [.int x10]) (ci := 2) hC wdX2_upAfter mw_110 dX3_put_109 rfl rfl ⟨Nat.le_of_ble_eq_true rfl, Nat.le_of_ble_eq_true rfl⟩ (Nat.le_of_ble_eq_true rfl) hb (kX2_upAfter hr)) (fun v2 _ => ?_)
      refine mg_imul (pc := 112) hC dX3_put_112 ?_
      refine mg_aload (pc := 113) hC 2 dX3_put_113 rfl ?_
      refine mg_getI (pc := 115) (ci := 2) (k := 1) hC mi_2 rfl (by decide) mw_73 dX3_put_115 (fun v3 _ => ?_)
      refine mg_icmp_ge (pc := 118) hC 125 dX3_put_118 (by decide) (fun _ => ?_) (fun _ => ?_)
      · refine mg_iconst (pc := 125) hC (0 : Int32) dX3_put_125 (by decide) ?_
        exact mg_sub (pc := 126) [0, 1, 2, 3, 4, 5, 6] (L' := [(0, .ref x0), (3, .ref x3), (4, .ref x4), (6, .int x6), (7, .int x7), (8, .long x8), (10, .int x10)]) rfl (gX3_put_b126 hC  _ ih _ _ _ _ _ _ _ _ _ _ _ _)
      · refine mg_iconst (pc := 121) hC (1 : Int32) dX3_put_121 (by decide) ?_
        refine mg_goto (pc := 122) hC 126 dX3_put_122 (by decide) ?_
        exact mg_sub (pc := 126) [0, 1, 2, 3, 4, 5, 6] (L' := [(0, .ref x0), (3, .ref x3), (4, .ref x4), (6, .int x6), (7, .int x7), (8, .long x8), (10, .int x10)]) rfl (gX3_put_b126 hC  _ ih _ _ _ _ _ _ _ _ _ _ _ _)
def fX3_put (x0 : Nat) (x1 : Int32) (x2 : Int32) (w : mg_H) (sz : Nat) : Option (Int32 × mg_H × Nat × Nat) := mg_rc w 3 x0 ((fX3_turnAt x0 x1 w).bind fun v1 => mg_rc w 3 x0 ((fX3_turnAt x0 x2 w).bind fun v2 => mg_if0 v1 (some ((-1 : Int32), w, 0, 0)) (fun a3 => mg_if0 v2 (some ((-1 : Int32), w, 0, 0)) (fun a4 => mg_rc w 3 x0 (mg_bA (fX3_pairForPutting x0 a3 a4 w sz) fun v5 w6 kc7 ks8 => if v5 < 0 then (some ((-2 : Int32), w6, 0, 0)) else ((mg_gI w6 2 a3 3).bind fun v9 => (mg_gI w6 2 a4 3).bind fun v10 => if (v9 * v10) ≤ (20 : Int32) then (mg_rc w6 3 x0 (mg_bA (fX3_known x0 w6 (sz + kc7)) fun v11 w12 kc13 ks14 => (mg_gI w12 2 a3 3).bind fun v15 => mg_nn v11 fun a16 => mg_rc w12 0 a16 ((fX0_digitsOf a16 v5 (0 : Int32) v15 w12).bind fun v17 => mg_rc w12 3 x0 (mg_bA (fX3_known x0 w12 (sz + kc7 + kc13)) fun v18 w19 kc20 ks21 => (mg_gI w19 2 a3 3).bind fun v22 => mg_nn v18 fun a23 => mg_rc w19 0 a23 ((fX0_digitsOf a23 v5 (1 : Int32) v22 w19).bind fun v24 => fX3_put_b94 mg_N x0 a3 a4 v17 v24 (0 : Int64) (0 : Int32) w19 (sz + kc7 + kc13 + kc20)))))) else (some ((-2 : Int32), w6, 0, 0))))))))
set_option maxHeartbeats 4000000 in
set_option maxRecDepth 100000 in
theorem kX3_put {E : mg_P} {l : Launch} {x0 : Nat} {x1 : Int32} {x2 : Int32} {w : mg_H} {sz : Nat} {o : Int32 × mg_H × Nat × Nat} (hf : fX3_put x0 x1 x2 w sz = some o) : mg_C E l yX3_put cX3_put 12 (some .int) 7 159 [.ref x0, .int x1, .int x2] w sz ((mg_oA mg_vI) o) := by
  refine mg_meth (out := (mg_oA mg_vI)) (by decide) (Nat.le_of_ble_eq_true rfl) hf ?_
  intro p e C S s m below meth c hC hin
  have hC : mg_Cx E p s m _ meth c cX3_put 12 (some .int) RX3 := hC
  unfold fX3_put
  refine mg_sub (pc := 0) [0, 1, 2] (L' := [(0, .ref x0), (1, .int x1), (2, .int x2)]) rfl ?_
  refine mg_aload_n (pc := 0) hC 0 dX3_put_0 rfl ?_
  refine mg_iload_n (pc := 1) hC 1 dX3_put_1 rfl ?_
  refine mg_recv (ci := 3) (fun hb => ?_)
  refine mg_cRQ (pc := 2) (fun r hr => mg_VR (rest := []) (av := [.int x1]) (ci := 3) hC wdX3_turnAt mw_96 dX3_put_2 rfl rfl ⟨Nat.le_of_ble_eq_true rfl, Nat.le_of_ble_eq_true rfl⟩ (Nat.le_of_ble_eq_true rfl) hb (kX3_turnAt hr)) (fun v1 _ => ?_)
  refine mg_astore_nQ (pc := 5) hC [(3, va_rf v1), (0, .ref x0), (1, .int x1), (2, .int x2)] dX3_put_5 (by decide) rfl ?_
  refine mg_aload_n (pc := 6) hC 1 dX3_put_6 rfl ?_
  refine mg_iload_n (pc := 7) hC 3 dX3_put_7 rfl ?_
  refine mg_recv (ci := 3) (fun hb => ?_)
  refine mg_cRQ (pc := 8) (fun r hr => mg_VR (rest := []) (av := [.int x2]) (ci := 3) hC wdX3_turnAt mw_96 dX3_put_8 rfl rfl ⟨Nat.le_of_ble_eq_true rfl, Nat.le_of_ble_eq_true rfl⟩ (Nat.le_of_ble_eq_true rfl) hb (kX3_turnAt hr)) (fun v2 _ => ?_)
  refine mg_astoreQ (pc := 11) hC [(4, va_rf v2), (3, va_rf v1), (0, .ref x0), (1, .int x1), (2, .int x2)] dX3_put_11 (by decide) (by cases v1 <;> rfl) ?_
  refine mg_aload_nQ (pc := 13) hC 1 dX3_put_13 rfl ?_
  refine mg_ifnull (pc := 14) hC 22 dX3_put_14 (by decide) (fun hq => ?_) (fun a3 hq => ?_)
  · subst hq
    refine mg_iconst (pc := 22) hC (-1 : Int32) dX3_put_22 (by decide) ?_
    exact mg_iret (pc := 23) hC rfl dX3_put_23
  · subst hq
    refine mg_aloadQ (pc := 17) hC 0 dX3_put_17 rfl ?_
    refine mg_ifnonnull (pc := 19) hC 24 dX3_put_19 (by decide) (fun hq => ?_) (fun a4 hq => ?_)
    · subst hq
      refine mg_iconst (pc := 22) hC (-1 : Int32) dX3_put_22 (by decide) ?_
      exact mg_iret (pc := 23) hC rfl dX3_put_23
    · subst hq
      refine mg_aload_n (pc := 24) hC 2 dX3_put_24 rfl ?_
      refine mg_aload_n (pc := 25) hC 1 dX3_put_25 rfl ?_
      refine mg_aload (pc := 26) hC 0 dX3_put_26 rfl ?_
      refine mg_recv (ci := 3) (fun hb => ?_)
      refine mg_cAI (pc := 28) (fun r hr => mg_VR (rest := []) (av := [.ref a3, .ref a4]) (ci := 3) hC wdX3_pairForPutting mw_335 dX3_put_28 rfl rfl ⟨Nat.le_of_ble_eq_true rfl, Nat.le_of_ble_eq_true rfl⟩ (Nat.le_of_ble_eq_true rfl) hb (kX3_pairForPutting hr)) (fun v5 w6 kc7 ks8 _ => ?_)
      refine mg_istore (pc := 31) hC [(5, .int v5), (4, .ref a4), (3, .ref a3), (0, .ref x0), (1, .int x1), (2, .int x2)] dX3_put_31 (by decide) rfl ?_
      refine mg_iload (pc := 33) hC 0 dX3_put_33 rfl ?_
      refine mg_if_lt (pc := 35) hC 53 dX3_put_35 (by decide) (fun _ => ?_) (fun _ => ?_)
      · refine mg_bipush (pc := 53) hC (-2 : Int32) dX3_put_53 (by decide) ?_
        exact mg_iret (pc := 55) hC rfl dX3_put_55
      · refine mg_aload_n (pc := 38) hC 2 dX3_put_38 rfl ?_
        refine mg_getI (pc := 39) (ci := 2) (k := 3) hC mi_2 rfl (by decide) mw_78 dX3_put_39 (fun v9 _ => ?_)
        refine mg_aload (pc := 42) hC 1 dX3_put_42 rfl ?_
        refine mg_getI (pc := 44) (ci := 2) (k := 3) hC mi_2 rfl (by decide) mw_78 dX3_put_44 (fun v10 _ => ?_)
        refine mg_imul (pc := 47) hC dX3_put_47 ?_
        refine mg_bipush (pc := 48) hC (20 : Int32) dX3_put_48 (by decide) ?_
        refine mg_icmp_le (pc := 50) hC 56 dX3_put_50 (by decide) (fun _ => ?_) (fun _ => ?_)
        · refine mg_aload_n (pc := 56) hC 3 dX3_put_56 rfl ?_
          refine mg_recv (ci := 3) (fun hb => ?_)
          refine mg_cAQ (pc := 57) (fun r hr => mg_VR (rest := []) (av := []) (ci := 3) hC wdX3_known mw_191 dX3_put_57 rfl rfl ⟨Nat.le_of_ble_eq_true rfl, Nat.le_of_ble_eq_true rfl⟩ (Nat.le_of_ble_eq_true rfl) hb (kX3_known hr)) (fun v11 w12 kc13 ks14 _ => ?_)
          refine mg_iload (pc := 60) hC 0 dX3_put_60 rfl ?_
          refine mg_iconst (pc := 62) hC (0 : Int32) dX3_put_62 (by decide) ?_
          refine mg_aload_n (pc := 63) hC 2 dX3_put_63 rfl ?_
          refine mg_getI (pc := 64) (ci := 2) (k := 3) hC mi_2 rfl (by decide) mw_78 dX3_put_64 (fun v15 _ => ?_)
          refine mg_deref (fun a16 hq => ?_)
          subst hq
          refine mg_recv (ci := 0) (fun hb => ?_)
          refine mg_cRI (pc := 67) (fun r hr => mg_VR (rest := []) (av := [.int v5, .int (0 : Int32), .int v15]) (ci := 0) hC wdX0_digitsOf mw_251 dX3_put_67 rfl rfl ⟨Nat.le_of_ble_eq_true rfl, Nat.le_of_ble_eq_true rfl⟩ (Nat.le_of_ble_eq_true rfl) hb (kX0_digitsOf hr)) (fun v17 _ => ?_)
          refine mg_istore (pc := 70) hC [(6, .int v17), (5, .int v5), (4, .ref a4), (3, .ref a3), (0, .ref x0), (1, .int x1), (2, .int x2)] dX3_put_70 (by decide) rfl ?_
          refine mg_aload_n (pc := 72) hC 4 dX3_put_72 rfl ?_
          refine mg_recv (ci := 3) (fun hb => ?_)
          refine mg_cAQ (pc := 73) (fun r hr => mg_VR (rest := []) (av := []) (ci := 3) hC wdX3_known mw_191 dX3_put_73 rfl rfl ⟨Nat.le_of_ble_eq_true rfl, Nat.le_of_ble_eq_true rfl⟩ (Nat.le_of_ble_eq_true rfl) hb (kX3_known hr)) (fun v18 w19 kc20 ks21 _ => ?_)
          refine mg_iload (pc := 76) hC 1 dX3_put_76 rfl ?_
          refine mg_iconst (pc := 78) hC (1 : Int32) dX3_put_78 (by decide) ?_
          refine mg_aload_n (pc := 79) hC 3 dX3_put_79 rfl ?_
          refine mg_getI (pc := 80) (ci := 2) (k := 3) hC mi_2 rfl (by decide) mw_78 dX3_put_80 (fun v22 _ => ?_)
          refine mg_deref (fun a23 hq => ?_)
          subst hq
          refine mg_recv (ci := 0) (fun hb => ?_)
          refine mg_cRI (pc := 83) (fun r hr => mg_VR (rest := []) (av := [.int v5, .int (1 : Int32), .int v22]) (ci := 0) hC wdX0_digitsOf mw_251 dX3_put_83 rfl rfl ⟨Nat.le_of_ble_eq_true rfl, Nat.le_of_ble_eq_true rfl⟩ (Nat.le_of_ble_eq_true rfl) hb (kX0_digitsOf hr)) (fun v24 _ => ?_)
          refine mg_istore (pc := 86) hC [(7, .int v24), (6, .int v17), (5, .int v5), (4, .ref a4), (3, .ref a3), (0, .ref x0), (1, .int x1), (2, .int x2)] dX3_put_86 (by decide) rfl ?_
          refine mg_lconst (pc := 88) hC (0 : Int64) dX3_put_88 (by decide) ?_
          refine mg_lstore (pc := 89) hC [(8, .long (0 : Int64)), (7, .int v24), (6, .int v17), (5, .int v5), (4, .ref a4), (3, .ref a3), (0, .ref x0), (1, .int x1), (2, .int x2)] dX3_put_89 (by decide) rfl ?_
          refine mg_iconst (pc := 91) hC (0 : Int32) dX3_put_91 (by decide) ?_
          refine mg_istore (pc := 92) hC [(10, .int (0 : Int32)), (8, .long (0 : Int64)), (7, .int v24), (6, .int v17), (5, .int v5), (4, .ref a4), (3, .ref a3), (0, .ref x0), (1, .int x1), (2, .int x2)] dX3_put_92 (by decide) rfl ?_
          exact mg_sub (pc := 94) [7, 6, 5, 3, 2, 1, 0] (L' := [(0, .ref x0), (3, .ref a3), (4, .ref a4), (6, .int v17), (7, .int v24), (8, .long (0 : Int64)), (10, .int (0 : Int32))]) rfl (gX3_put_b94 hC   _ _ _ _ _ _ _ _ _ _ _ _)
        · refine mg_bipush (pc := 53) hC (-2 : Int32) dX3_put_53 (by decide) ?_
          exact mg_iret (pc := 55) hC rfl dX3_put_55
theorem wdX3_put : mg_WdV 3 yX3_put cX3_put 12 (some .int) 2 := ⟨⟨mw_334, mw_1, by decide, by decide, by decide +kernel⟩, _, rfl, mw_332, mw_333⟩
def fX3_digitsTakenOut_b104 (r37 : Int32 → Nat → Int32 → Int32 → Int32 → Int64 → Int64 → Int32 → mg_H → Nat → Option (Int64 × mg_H × Nat × Nat)) (x2 : Int32) (x3 : Nat) (x4 : Int32) (x5 : Int32) (x6 : Int32) (x11 : Int32) (x12 : Int64) (x14 : Int64) (s0 : Int32) (s1 : Int64) (w : mg_H) (sz : Nat) : Option (Int64 × mg_H × Nat × Nat) := (fX3_answer s0).bind fun v1 => (mg_gI w 2 x3 1).bind fun v2 => r37 x2 x3 x4 x5 x6 (s1 + (v1.toInt64)) (x12 - (x14 * (v2.toInt64))) (x11 + (1 : Int32)) w sz
set_option maxHeartbeats 4000000 in
set_option maxRecDepth 100000 in
theorem gX3_digitsTakenOut_b104 (hC : mg_Cx E p s m args meth c cX3_digitsTakenOut 16 (some .long) RX3) (r37 : Int32 → Nat → Int32 → Int32 → Int32 → Int64 → Int64 → Int32 → mg_H → Nat → Option (Int64 × mg_H × Nat × Nat)) (hr37 : ∀ (z2 : Int32) (z3 : Nat) (z4 : Int32) (z5 : Int32) (z6 : Int32) (z7 : Int64) (z9 : Int64) (z11 : Int32) (w : mg_H) (sz cells slots : Nat), mg_G E p l e ({ frames := 5, cells := C, slots := S, locals := 116 } : Room) s m args below meth c 16 (mg_oA mg_vL) (r37 z2 z3 z4 z5 z6 z7 z9 z11 w sz) w sz cells slots 37 [(2, .int z2), (3, .ref z3), (4, .int z4), (5, .int z5), (6, .int z6), (7, .long z7), (9, .long z9), (11, .int z11)] []) (x2 : Int32) (x3 : Nat) (x4 : Int32) (x5 : Int32) (x6 : Int32) (x11 : Int32) (x12 : Int64) (x14 : Int64) (s0 : Int32) (s1 : Int64) (w : mg_H) (sz : Nat) (cells slots : Nat) : mg_G E p l e ({ frames := 5, cells := C, slots := S, locals := 116 } : Room) s m args below meth c 16 (mg_oA mg_vL) (fX3_digitsTakenOut_b104 r37 x2 x3 x4 x5 x6 x11 x12 x14 s0 s1 w sz) w sz cells slots 104 [(2, .int x2), (3, .ref x3), (4, .int x4), (5, .int x5), (6, .int x6), (11, .int x11), (12, .long x12), (14, .long x14)] [.int s0, .long s1] := by
  unfold fX3_digitsTakenOut_b104
  refine mg_cRI (pc := 104) (fun r hr => mg_S (rest := [.long s1]) hC wdX3_answer mw_165 mw_164 dX3_digitsTakenOut_104 rfl rfl ⟨Nat.le_of_ble_eq_true rfl, Nat.le_of_ble_eq_true rfl⟩ (Nat.le_of_ble_eq_true rfl) (kX3_answer hr)) (fun v1 _ => ?_)
  refine mg_i2l (pc := 107) hC dX3_digitsTakenOut_107 ?_
  refine mg_ladd (pc := 108) hC dX3_digitsTakenOut_108 ?_
  refine mg_lstore (pc := 109) hC [(7, .long (s1 + (v1.toInt64))), (2, .int x2), (3, .ref x3), (4, .int x4), (5, .int x5), (6, .int x6), (11, .int x11), (12, .long x12), (14, .long x14)] dX3_digitsTakenOut_109 (by decide) rfl ?_
  refine mg_lload (pc := 111) hC 7 dX3_digitsTakenOut_111 rfl ?_
  refine mg_lload (pc := 113) hC 8 dX3_digitsTakenOut_113 rfl ?_
  refine mg_aload_n (pc := 115) hC 2 dX3_digitsTakenOut_115 rfl ?_
  refine mg_getI (pc := 116) (ci := 2) (k := 1) hC mi_2 rfl (by decide) mw_73 dX3_digitsTakenOut_116 (fun v2 _ => ?_)
  refine mg_i2l (pc := 119) hC dX3_digitsTakenOut_119 ?_
  refine mg_lmul (pc := 120) hC dX3_digitsTakenOut_120 ?_
  refine mg_lsub (pc := 121) hC dX3_digitsTakenOut_121 ?_
  refine mg_lstore (pc := 122) hC [(9, .long (x12 - (x14 * (v2.toInt64)))), (7, .long (s1 + (v1.toInt64))), (2, .int x2), (3, .ref x3), (4, .int x4), (5, .int x5), (6, .int x6), (11, .int x11), (12, .long x12), (14, .long x14)] dX3_digitsTakenOut_122 (by decide) rfl ?_
  refine mg_iinc (pc := 124) hC 7 (x11 + (1 : Int32)) [(11, .int (x11 + (1 : Int32))), (9, .long (x12 - (x14 * (v2.toInt64)))), (7, .long (s1 + (v1.toInt64))), (2, .int x2), (3, .ref x3), (4, .int x4), (5, .int x5), (6, .int x6), (12, .long x12), (14, .long x14)] dX3_digitsTakenOut_124 rfl rfl (by decide) rfl ?_
  refine mg_goto (pc := 127) hC 37 dX3_digitsTakenOut_127 (by decide) ?_
  exact mg_sub (pc := 37) [3, 4, 5, 6, 7, 2, 1, 0] (L' := [(2, .int x2), (3, .ref x3), (4, .int x4), (5, .int x5), (6, .int x6), (7, .long (s1 + (v1.toInt64))), (9, .long (x12 - (x14 * (v2.toInt64)))), (11, .int (x11 + (1 : Int32)))]) rfl (hr37 _ _ _ _ _ _ _ _ _ _ _ _)
def fX3_digitsTakenOut_b84 (r37 : Int32 → Nat → Int32 → Int32 → Int32 → Int64 → Int64 → Int32 → mg_H → Nat → Option (Int64 × mg_H × Nat × Nat)) (x2 : Int32) (x3 : Nat) (x4 : Int32) (x5 : Int32) (x6 : Int32) (x7 : Int64) (x11 : Int32) (x12 : Int64) (x14 : Int64) (w : mg_H) (sz : Nat) : Option (Int64 × mg_H × Nat × Nat) := if (lg_cmp x14 (x6.toInt64)) = 0 then (fX3_digitsTakenOut_b104 r37 x2 x3 x4 x5 x6 x11 x12 x14 (1 : Int32) ((2 : Int64) * x7) w sz) else (fX3_digitsTakenOut_b104 r37 x2 x3 x4 x5 x6 x11 x12 x14 (0 : Int32) ((2 : Int64) * x7) w sz)
set_option maxHeartbeats 4000000 in
set_option maxRecDepth 100000 in
theorem gX3_digitsTakenOut_b84 (hC : mg_Cx E p s m args meth c cX3_digitsTakenOut 16 (some .long) RX3) (r37 : Int32 → Nat → Int32 → Int32 → Int32 → Int64 → Int64 → Int32 → mg_H → Nat → Option (Int64 × mg_H × Nat × Nat)) (hr37 : ∀ (z2 : Int32) (z3 : Nat) (z4 : Int32) (z5 : Int32) (z6 : Int32) (z7 : Int64) (z9 : Int64) (z11 : Int32) (w : mg_H) (sz cells slots : Nat), mg_G E p l e ({ frames := 5, cells := C, slots := S, locals := 116 } : Room) s m args below meth c 16 (mg_oA mg_vL) (r37 z2 z3 z4 z5 z6 z7 z9 z11 w sz) w sz cells slots 37 [(2, .int z2), (3, .ref z3), (4, .int z4), (5, .int z5), (6, .int z6), (7, .long z7), (9, .long z9), (11, .int z11)] []) (x2 : Int32) (x3 : Nat) (x4 : Int32) (x5 : Int32) (x6 : Int32) (x7 : Int64) (x11 : Int32) (x12 : Int64) (x14 : Int64) (w : mg_H) (sz : Nat) (cells slots : Nat) : mg_G E p l e ({ frames := 5, cells := C, slots := S, locals := 116 } : Room) s m args below meth c 16 (mg_oA mg_vL) (fX3_digitsTakenOut_b84 r37 x2 x3 x4 x5 x6 x7 x11 x12 x14 w sz) w sz cells slots 84 [(2, .int x2), (3, .ref x3), (4, .int x4), (5, .int x5), (6, .int x6), (7, .long x7), (11, .int x11), (12, .long x12), (14, .long x14)] [] := by
  unfold fX3_digitsTakenOut_b84
  refine mg_ldc2 (pc := 84) hC (2 : Int64) dX3_digitsTakenOut_84 mw_348 ?_
  refine mg_lload (pc := 87) hC 5 dX3_digitsTakenOut_87 rfl ?_
  refine mg_lmul (pc := 89) hC dX3_digitsTakenOut_89 ?_
  refine mg_lload (pc := 90) hC 8 dX3_digitsTakenOut_90 rfl ?_
  refine mg_iload (pc := 92) hC 4 dX3_digitsTakenOut_92 rfl ?_
  refine mg_i2l (pc := 94) hC dX3_digitsTakenOut_94 ?_
  refine mg_lcmp (pc := 95) hC dX3_digitsTakenOut_95 ?_
  refine mg_if_ne (pc := 96) hC 103 dX3_digitsTakenOut_96 (by decide) (fun _ => ?_) (fun _ => ?_)
  · refine mg_iconst (pc := 99) hC (1 : Int32) dX3_digitsTakenOut_99 (by decide) ?_
    refine mg_goto (pc := 100) hC 104 dX3_digitsTakenOut_100 (by decide) ?_
    exact mg_sub (pc := 104) [0, 1, 2, 3, 4, 6, 7, 8] (L' := [(2, .int x2), (3, .ref x3), (4, .int x4), (5, .int x5), (6, .int x6), (11, .int x11), (12, .long x12), (14, .long x14)]) rfl (gX3_digitsTakenOut_b104 hC  _ hr37 _ _ _ _ _ _ _ _ _ _ _ _ _ _)
  · refine mg_iconst (pc := 103) hC (0 : Int32) dX3_digitsTakenOut_103 (by decide) ?_
    exact mg_sub (pc := 104) [0, 1, 2, 3, 4, 6, 7, 8] (L' := [(2, .int x2), (3, .ref x3), (4, .int x4), (5, .int x5), (6, .int x6), (11, .int x11), (12, .long x12), (14, .long x14)]) rfl (gX3_digitsTakenOut_b104 hC  _ hr37 _ _ _ _ _ _ _ _ _ _ _ _ _ _)
def fX3_digitsTakenOut_b37 : Nat → Int32 → Nat → Int32 → Int32 → Int32 → Int64 → Int64 → Int32 → mg_H → Nat → Option (Int64 × mg_H × Nat × Nat)
  | 0, _, _, _, _, _, _, _, _, _, _ => none
  | n + 1, x2, x3, x4, x5, x6, x7, x9, x11, w, sz => if x4 ≤ x11 then (some (x7, w, 0, 0)) else ((mg_gI w 2 x3 1).bind fun v1 => (fX3_over (x9 <<< (x2.toInt64 &&& 63)) (v1.toInt64)).bind fun v2 => if (lg_cmp v2 (x5.toInt64)) = 0 then (fX3_digitsTakenOut_b84 (fX3_digitsTakenOut_b37 n) x2 x3 x4 x5 x6 x7 x11 (x9 <<< (x2.toInt64 &&& 63)) v2 w sz) else (if (lg_cmp v2 (x6.toInt64)) = 0 then (fX3_digitsTakenOut_b84 (fX3_digitsTakenOut_b37 n) x2 x3 x4 x5 x6 x7 x11 (x9 <<< (x2.toInt64 &&& 63)) v2 w sz) else (some ((-1 : Int64), w, 0, 0))))
set_option maxHeartbeats 4000000 in
set_option maxRecDepth 100000 in
theorem gX3_digitsTakenOut_b37 (hC : mg_Cx E p s m args meth c cX3_digitsTakenOut 16 (some .long) RX3) : ∀ (n : Nat) (x2 : Int32) (x3 : Nat) (x4 : Int32) (x5 : Int32) (x6 : Int32) (x7 : Int64) (x9 : Int64) (x11 : Int32) (w : mg_H) (sz : Nat) (cells slots : Nat), mg_G E p l e ({ frames := 5, cells := C, slots := S, locals := 116 } : Room) s m args below meth c 16 (mg_oA mg_vL) (fX3_digitsTakenOut_b37 n x2 x3 x4 x5 x6 x7 x9 x11 w sz) w sz cells slots 37 [(2, .int x2), (3, .ref x3), (4, .int x4), (5, .int x5), (6, .int x6), (7, .long x7), (9, .long x9), (11, .int x11)] [] := by
  intro n
  induction n with
  | zero => intros; exact fun o hf => by rw [fX3_digitsTakenOut_b37] at hf; cases hf
  | succ n ih =>
    intro x2 x3 x4 x5 x6 x7 x9 x11 w sz cells slots
    rw [fX3_digitsTakenOut_b37]
    refine mg_iload (pc := 37) hC 7 dX3_digitsTakenOut_37 rfl ?_
    refine mg_iload (pc := 39) hC 2 dX3_digitsTakenOut_39 rfl ?_
    refine mg_icmp_ge (pc := 41) hC 130 dX3_digitsTakenOut_41 (by decide) (fun _ => ?_) (fun _ => ?_)
    · refine mg_lload (pc := 130) hC 5 dX3_digitsTakenOut_130 rfl ?_
      exact mg_lret (pc := 132) hC rfl dX3_digitsTakenOut_132
    · refine mg_lload (pc := 44) hC 6 dX3_digitsTakenOut_44 rfl ?_
      refine mg_iload_n (pc := 46) hC 0 dX3_digitsTakenOut_46 rfl ?_
      refine mg_lshl (pc := 47) hC dX3_digitsTakenOut_47 ?_
      refine mg_lstore (pc := 48) hC [(12, .long (x9 <<< (x2.toInt64 &&& 63))), (2, .int x2), (3, .ref x3), (4, .int x4), (5, .int x5), (6, .int x6), (7, .long x7), (9, .long x9), (11, .int x11)] dX3_digitsTakenOut_48 (by decide) rfl ?_
      refine mg_lload (pc := 50) hC 0 dX3_digitsTakenOut_50 rfl ?_
      refine mg_aload_n (pc := 52) hC 2 dX3_digitsTakenOut_52 rfl ?_
      refine mg_getI (pc := 53) (ci := 2) (k := 1) hC mi_2 rfl (by decide) mw_73 dX3_digitsTakenOut_53 (fun v1 _ => ?_)
      refine mg_i2l (pc := 56) hC dX3_digitsTakenOut_56 ?_
      refine mg_cRL (pc := 57) (fun r hr => mg_S (rest := []) hC wdX3_over mw_54 mw_112 dX3_digitsTakenOut_57 rfl rfl ⟨Nat.le_of_ble_eq_true rfl, Nat.le_of_ble_eq_true rfl⟩ (Nat.le_of_ble_eq_true rfl) (kX3_over hr)) (fun v2 _ => ?_)
      refine mg_lstore (pc := 60) hC [(14, .long v2), (12, .long (x9 <<< (x2.toInt64 &&& 63))), (2, .int x2), (3, .ref x3), (4, .int x4), (5, .int x5), (6, .int x6), (7, .long x7), (9, .long x9), (11, .int x11)] dX3_digitsTakenOut_60 (by decide) rfl ?_
      refine mg_lload (pc := 62) hC 0 dX3_digitsTakenOut_62 rfl ?_
      refine mg_iload (pc := 64) hC 5 dX3_digitsTakenOut_64 rfl ?_
      refine mg_i2l (pc := 66) hC dX3_digitsTakenOut_66 ?_
      refine mg_lcmp (pc := 67) hC dX3_digitsTakenOut_67 ?_
      refine mg_if_eq (pc := 68) hC 84 dX3_digitsTakenOut_68 (by decide) (fun _ => ?_) (fun _ => ?_)
      · exact mg_sub (pc := 84) [2, 3, 4, 5, 6, 7, 9, 1, 0] (L' := [(2, .int x2), (3, .ref x3), (4, .int x4), (5, .int x5), (6, .int x6), (7, .long x7), (11, .int x11), (12, .long (x9 <<< (x2.toInt64 &&& 63))), (14, .long v2)]) rfl (gX3_digitsTakenOut_b84 hC  _ ih _ _ _ _ _ _ _ _ _ _ _ _ _)
      · refine mg_lload (pc := 71) hC 0 dX3_digitsTakenOut_71 rfl ?_
        refine mg_iload (pc := 73) hC 6 dX3_digitsTakenOut_73 rfl ?_
        refine mg_i2l (pc := 75) hC dX3_digitsTakenOut_75 ?_
        refine mg_lcmp (pc := 76) hC dX3_digitsTakenOut_76 ?_
        refine mg_if_eq (pc := 77) hC 84 dX3_digitsTakenOut_77 (by decide) (fun _ => ?_) (fun _ => ?_)
        · exact mg_sub (pc := 84) [2, 3, 4, 5, 6, 7, 9, 1, 0] (L' := [(2, .int x2), (3, .ref x3), (4, .int x4), (5, .int x5), (6, .int x6), (7, .long x7), (11, .int x11), (12, .long (x9 <<< (x2.toInt64 &&& 63))), (14, .long v2)]) rfl (gX3_digitsTakenOut_b84 hC  _ ih _ _ _ _ _ _ _ _ _ _ _ _ _)
        · refine mg_ldc2 (pc := 80) hC (-1 : Int64) dX3_digitsTakenOut_80 mw_347 ?_
          exact mg_lret (pc := 83) hC rfl dX3_digitsTakenOut_83
def fX3_digitsTakenOut (x0 : Nat) (x1 : Int32) (x2 : Int32) (x3 : Nat) (x4 : Int32) (w : mg_H) (sz : Nat) : Option (Int64 × mg_H × Nat × Nat) := mg_rc w 3 x0 (mg_bA (fX3_known x0 w sz) fun v1 w2 kc3 ks4 => mg_nn v1 fun a5 => mg_rc w2 0 a5 ((fX0_digitsOf a5 x1 (0 : Int32) x2 w2).bind fun v6 => mg_rc w2 3 x0 (mg_bA (fX3_known x0 w2 (sz + kc3)) fun v7 w8 kc9 ks10 => mg_nn v7 fun a11 => mg_rc w8 0 a11 ((fX0_digitsOf a11 x1 (1 : Int32) x2 w8).bind fun v12 => (mg_gI w8 2 x3 0).bind fun v13 => fX3_digitsTakenOut_b37 mg_N x2 x3 x4 v6 v12 (0 : Int64) (v13.toInt64) (0 : Int32) w8 (sz + kc3 + kc9)))))
set_option maxHeartbeats 4000000 in
set_option maxRecDepth 100000 in
theorem kX3_digitsTakenOut {E : mg_P} {l : Launch} {x0 : Nat} {x1 : Int32} {x2 : Int32} {x3 : Nat} {x4 : Int32} {w : mg_H} {sz : Nat} {o : Int64 × mg_H × Nat × Nat} (hf : fX3_digitsTakenOut x0 x1 x2 x3 x4 w sz = some o) : mg_C E l yX3_digitsTakenOut cX3_digitsTakenOut 16 (some .long) 5 116 [.ref x0, .int x1, .int x2, .ref x3, .int x4] w sz ((mg_oA mg_vL) o) := by
  refine mg_meth (out := (mg_oA mg_vL)) (by decide) (Nat.le_of_ble_eq_true rfl) hf ?_
  intro p e C S s m below meth c hC hin
  have hC : mg_Cx E p s m _ meth c cX3_digitsTakenOut 16 (some .long) RX3 := hC
  unfold fX3_digitsTakenOut
  refine mg_sub (pc := 0) [0, 1, 2, 3, 4] (L' := [(0, .ref x0), (1, .int x1), (2, .int x2), (3, .ref x3), (4, .int x4)]) rfl ?_
  refine mg_aload_n (pc := 0) hC 0 dX3_digitsTakenOut_0 rfl ?_
  refine mg_recv (ci := 3) (fun hb => ?_)
  refine mg_cAQ (pc := 1) (fun r hr => mg_VR (rest := []) (av := []) (ci := 3) hC wdX3_known mw_191 dX3_digitsTakenOut_1 rfl rfl ⟨Nat.le_of_ble_eq_true rfl, Nat.le_of_ble_eq_true rfl⟩ (Nat.le_of_ble_eq_true rfl) hb (kX3_known hr)) (fun v1 w2 kc3 ks4 _ => ?_)
  refine mg_iload_n (pc := 4) hC 1 dX3_digitsTakenOut_4 rfl ?_
  refine mg_iconst (pc := 5) hC (0 : Int32) dX3_digitsTakenOut_5 (by decide) ?_
  refine mg_iload_n (pc := 6) hC 2 dX3_digitsTakenOut_6 rfl ?_
  refine mg_deref (fun a5 hq => ?_)
  subst hq
  refine mg_recv (ci := 0) (fun hb => ?_)
  refine mg_cRI (pc := 7) (fun r hr => mg_VR (rest := []) (av := [.int x1, .int (0 : Int32), .int x2]) (ci := 0) hC wdX0_digitsOf mw_251 dX3_digitsTakenOut_7 rfl rfl ⟨Nat.le_of_ble_eq_true rfl, Nat.le_of_ble_eq_true rfl⟩ (Nat.le_of_ble_eq_true rfl) hb (kX0_digitsOf hr)) (fun v6 _ => ?_)
  refine mg_istore (pc := 10) hC [(5, .int v6), (0, .ref x0), (1, .int x1), (2, .int x2), (3, .ref x3), (4, .int x4)] dX3_digitsTakenOut_10 (by decide) rfl ?_
  refine mg_aload_n (pc := 12) hC 1 dX3_digitsTakenOut_12 rfl ?_
  refine mg_recv (ci := 3) (fun hb => ?_)
  refine mg_cAQ (pc := 13) (fun r hr => mg_VR (rest := []) (av := []) (ci := 3) hC wdX3_known mw_191 dX3_digitsTakenOut_13 rfl rfl ⟨Nat.le_of_ble_eq_true rfl, Nat.le_of_ble_eq_true rfl⟩ (Nat.le_of_ble_eq_true rfl) hb (kX3_known hr)) (fun v7 w8 kc9 ks10 _ => ?_)
  refine mg_iload_n (pc := 16) hC 2 dX3_digitsTakenOut_16 rfl ?_
  refine mg_iconst (pc := 17) hC (1 : Int32) dX3_digitsTakenOut_17 (by decide) ?_
  refine mg_iload_n (pc := 18) hC 3 dX3_digitsTakenOut_18 rfl ?_
  refine mg_deref (fun a11 hq => ?_)
  subst hq
  refine mg_recv (ci := 0) (fun hb => ?_)
  refine mg_cRI (pc := 19) (fun r hr => mg_VR (rest := []) (av := [.int x1, .int (1 : Int32), .int x2]) (ci := 0) hC wdX0_digitsOf mw_251 dX3_digitsTakenOut_19 rfl rfl ⟨Nat.le_of_ble_eq_true rfl, Nat.le_of_ble_eq_true rfl⟩ (Nat.le_of_ble_eq_true rfl) hb (kX0_digitsOf hr)) (fun v12 _ => ?_)
  refine mg_istore (pc := 22) hC [(6, .int v12), (5, .int v6), (0, .ref x0), (1, .int x1), (2, .int x2), (3, .ref x3), (4, .int x4)] dX3_digitsTakenOut_22 (by decide) rfl ?_
  refine mg_lconst (pc := 24) hC (0 : Int64) dX3_digitsTakenOut_24 (by decide) ?_
  refine mg_lstore (pc := 25) hC [(7, .long (0 : Int64)), (6, .int v12), (5, .int v6), (0, .ref x0), (1, .int x1), (2, .int x2), (3, .ref x3), (4, .int x4)] dX3_digitsTakenOut_25 (by decide) rfl ?_
  refine mg_aload_n (pc := 27) hC 6 dX3_digitsTakenOut_27 rfl ?_
  refine mg_getI (pc := 28) (ci := 2) (k := 0) hC mi_2 rfl (by decide) mw_70 dX3_digitsTakenOut_28 (fun v13 _ => ?_)
  refine mg_i2l (pc := 31) hC dX3_digitsTakenOut_31 ?_
  refine mg_lstore (pc := 32) hC [(9, .long (v13.toInt64)), (7, .long (0 : Int64)), (6, .int v12), (5, .int v6), (0, .ref x0), (1, .int x1), (2, .int x2), (3, .ref x3), (4, .int x4)] dX3_digitsTakenOut_32 (by decide) rfl ?_
  refine mg_iconst (pc := 34) hC (0 : Int32) dX3_digitsTakenOut_34 (by decide) ?_
  refine mg_istore (pc := 35) hC [(11, .int (0 : Int32)), (9, .long (v13.toInt64)), (7, .long (0 : Int64)), (6, .int v12), (5, .int v6), (0, .ref x0), (1, .int x1), (2, .int x2), (3, .ref x3), (4, .int x4)] dX3_digitsTakenOut_35 (by decide) rfl ?_
  exact mg_sub (pc := 37) [7, 8, 9, 4, 3, 2, 1, 0] (L' := [(2, .int x2), (3, .ref x3), (4, .int x4), (5, .int v6), (6, .int v12), (7, .long (0 : Int64)), (9, .long (v13.toInt64)), (11, .int (0 : Int32))]) rfl (gX3_digitsTakenOut_b37 hC   _ _ _ _ _ _ _ _ _ _ _ _ _)
theorem wdX3_digitsTakenOut : mg_WdV 3 yX3_digitsTakenOut cX3_digitsTakenOut 16 (some .long) 4 := ⟨⟨mw_346, mw_1, by decide, by decide, by decide +kernel⟩, _, rfl, mw_345, mw_p13⟩
def fX3_take (x0 : Nat) (x1 : Int32) (x2 : Int32) (w : mg_H) (sz : Nat) : Option (Int32 × mg_H × Nat × Nat) := mg_rc w 3 x0 ((fX3_turnAt x0 x1 w).bind fun v1 => mg_rc w 3 x0 ((fX3_turnAt x0 x2 w).bind fun v2 => mg_if0 v1 (some ((-1 : Int32), w, 0, 0)) (fun a3 => mg_if0 v2 (some ((-1 : Int32), w, 0, 0)) (fun a4 => mg_rc w 3 x0 (mg_bA (fX3_pairForPutting x0 a3 a4 w sz) fun v5 w6 kc7 ks8 => if v5 < 0 then (some ((-2 : Int32), w6, 0, 0)) else ((mg_gI w6 2 a4 3).bind fun v9 => if v9 ≤ (20 : Int32) then ((mg_gI w6 2 a4 3).bind fun v10 => (mg_gI w6 2 a4 3).bind fun v11 => (mg_gI w6 2 a3 3).bind fun v12 => (fX3_greatestShared (v11.toInt64) (v12.toInt64)).bind fun v13 => (fX3_over (v10.toInt64) v13).bind fun v14 => (mg_gI w6 2 a3 3).bind fun v15 => mg_rc w6 3 x0 (mg_bA (fX3_digitsTakenOut x0 v5 v15 a4 (v14.toInt32) w6 (sz + kc7)) fun v16 w17 kc18 ks19 => if (lg_cmp v16 (0 : Int64)) < 0 then (some ((-4 : Int32), w17, 0, 0)) else ((fX3_ones (v14.toInt32)).bind fun v20 => if (lg_cmp v16 (v20.toInt64)) = 0 then (some ((-4 : Int32), w17, 0, 0)) else ((fX3_ones (v14.toInt32)).bind fun v21 => mg_rc w17 3 x0 (mg_bA (fX3_keep x0 v16 (v21.toInt64) w17 (sz + kc7 + kc18)) fun v22 w23 kc24 ks25 => some (v22, w23, 0, 0)))))) else (some ((-2 : Int32), w6, 0, 0))))))))
set_option maxHeartbeats 4000000 in
set_option maxRecDepth 100000 in
theorem kX3_take {E : mg_P} {l : Launch} {x0 : Nat} {x1 : Int32} {x2 : Int32} {w : mg_H} {sz : Nat} {o : Int32 × mg_H × Nat × Nat} (hf : fX3_take x0 x1 x2 w sz = some o) : mg_C E l yX3_take cX3_take 9 (some .int) 7 159 [.ref x0, .int x1, .int x2] w sz ((mg_oA mg_vI) o) := by
  refine mg_meth (out := (mg_oA mg_vI)) (by decide) (Nat.le_of_ble_eq_true rfl) hf ?_
  intro p e C S s m below meth c hC hin
  have hC : mg_Cx E p s m _ meth c cX3_take 9 (some .int) RX3 := hC
  unfold fX3_take
  refine mg_sub (pc := 0) [0, 1, 2] (L' := [(0, .ref x0), (1, .int x1), (2, .int x2)]) rfl ?_
  refine mg_aload_n (pc := 0) hC 0 dX3_take_0 rfl ?_
  refine mg_iload_n (pc := 1) hC 1 dX3_take_1 rfl ?_
  refine mg_recv (ci := 3) (fun hb => ?_)
  refine mg_cRQ (pc := 2) (fun r hr => mg_VR (rest := []) (av := [.int x1]) (ci := 3) hC wdX3_turnAt mw_96 dX3_take_2 rfl rfl ⟨Nat.le_of_ble_eq_true rfl, Nat.le_of_ble_eq_true rfl⟩ (Nat.le_of_ble_eq_true rfl) hb (kX3_turnAt hr)) (fun v1 _ => ?_)
  refine mg_astore_nQ (pc := 5) hC [(3, va_rf v1), (0, .ref x0), (1, .int x1), (2, .int x2)] dX3_take_5 (by decide) rfl ?_
  refine mg_aload_n (pc := 6) hC 1 dX3_take_6 rfl ?_
  refine mg_iload_n (pc := 7) hC 3 dX3_take_7 rfl ?_
  refine mg_recv (ci := 3) (fun hb => ?_)
  refine mg_cRQ (pc := 8) (fun r hr => mg_VR (rest := []) (av := [.int x2]) (ci := 3) hC wdX3_turnAt mw_96 dX3_take_8 rfl rfl ⟨Nat.le_of_ble_eq_true rfl, Nat.le_of_ble_eq_true rfl⟩ (Nat.le_of_ble_eq_true rfl) hb (kX3_turnAt hr)) (fun v2 _ => ?_)
  refine mg_astoreQ (pc := 11) hC [(4, va_rf v2), (3, va_rf v1), (0, .ref x0), (1, .int x1), (2, .int x2)] dX3_take_11 (by decide) (by cases v1 <;> rfl) ?_
  refine mg_aload_nQ (pc := 13) hC 1 dX3_take_13 rfl ?_
  refine mg_ifnull (pc := 14) hC 22 dX3_take_14 (by decide) (fun hq => ?_) (fun a3 hq => ?_)
  · subst hq
    refine mg_iconst (pc := 22) hC (-1 : Int32) dX3_take_22 (by decide) ?_
    exact mg_iret (pc := 23) hC rfl dX3_take_23
  · subst hq
    refine mg_aloadQ (pc := 17) hC 0 dX3_take_17 rfl ?_
    refine mg_ifnonnull (pc := 19) hC 24 dX3_take_19 (by decide) (fun hq => ?_) (fun a4 hq => ?_)
    · subst hq
      refine mg_iconst (pc := 22) hC (-1 : Int32) dX3_take_22 (by decide) ?_
      exact mg_iret (pc := 23) hC rfl dX3_take_23
    · subst hq
      refine mg_aload_n (pc := 24) hC 2 dX3_take_24 rfl ?_
      refine mg_aload_n (pc := 25) hC 1 dX3_take_25 rfl ?_
      refine mg_aload (pc := 26) hC 0 dX3_take_26 rfl ?_
      refine mg_recv (ci := 3) (fun hb => ?_)
      refine mg_cAI (pc := 28) (fun r hr => mg_VR (rest := []) (av := [.ref a3, .ref a4]) (ci := 3) hC wdX3_pairForPutting mw_335 dX3_take_28 rfl rfl ⟨Nat.le_of_ble_eq_true rfl, Nat.le_of_ble_eq_true rfl⟩ (Nat.le_of_ble_eq_true rfl) hb (kX3_pairForPutting hr)) (fun v5 w6 kc7 ks8 _ => ?_)
      refine mg_istore (pc := 31) hC [(5, .int v5), (4, .ref a4), (3, .ref a3), (0, .ref x0), (1, .int x1), (2, .int x2)] dX3_take_31 (by decide) rfl ?_
      refine mg_iload (pc := 33) hC 0 dX3_take_33 rfl ?_
      refine mg_if_lt (pc := 35) hC 48 dX3_take_35 (by decide) (fun _ => ?_) (fun _ => ?_)
      · refine mg_bipush (pc := 48) hC (-2 : Int32) dX3_take_48 (by decide) ?_
        exact mg_iret (pc := 50) hC rfl dX3_take_50
      · refine mg_aload (pc := 38) hC 1 dX3_take_38 rfl ?_
        refine mg_getI (pc := 40) (ci := 2) (k := 3) hC mi_2 rfl (by decide) mw_78 dX3_take_40 (fun v9 _ => ?_)
        refine mg_bipush (pc := 43) hC (20 : Int32) dX3_take_43 (by decide) ?_
        refine mg_icmp_le (pc := 45) hC 51 dX3_take_45 (by decide) (fun _ => ?_) (fun _ => ?_)
        · refine mg_aload (pc := 51) hC 1 dX3_take_51 rfl ?_
          refine mg_getI (pc := 53) (ci := 2) (k := 3) hC mi_2 rfl (by decide) mw_78 dX3_take_53 (fun v10 _ => ?_)
          refine mg_i2l (pc := 56) hC dX3_take_56 ?_
          refine mg_aload (pc := 57) hC 1 dX3_take_57 rfl ?_
          refine mg_getI (pc := 59) (ci := 2) (k := 3) hC mi_2 rfl (by decide) mw_78 dX3_take_59 (fun v11 _ => ?_)
          refine mg_i2l (pc := 62) hC dX3_take_62 ?_
          refine mg_aload_n (pc := 63) hC 2 dX3_take_63 rfl ?_
          refine mg_getI (pc := 64) (ci := 2) (k := 3) hC mi_2 rfl (by decide) mw_78 dX3_take_64 (fun v12 _ => ?_)
          refine mg_i2l (pc := 67) hC dX3_take_67 ?_
          refine mg_cRL (pc := 68) (fun r hr => mg_S (rest := [.long (v10.toInt64)]) hC wdX3_greatestShared mw_51 mw_111 dX3_take_68 rfl rfl ⟨Nat.le_of_ble_eq_true rfl, Nat.le_of_ble_eq_true rfl⟩ (Nat.le_of_ble_eq_true rfl) (kX3_greatestShared hr)) (fun v13 _ => ?_)
          refine mg_cRL (pc := 71) (fun r hr => mg_S (rest := []) hC wdX3_over mw_54 mw_112 dX3_take_71 rfl rfl ⟨Nat.le_of_ble_eq_true rfl, Nat.le_of_ble_eq_true rfl⟩ (Nat.le_of_ble_eq_true rfl) (kX3_over hr)) (fun v14 _ => ?_)
          refine mg_l2i (pc := 74) hC dX3_take_74 ?_
          refine mg_istore (pc := 75) hC [(6, .int (v14.toInt32)), (5, .int v5), (4, .ref a4), (3, .ref a3), (0, .ref x0), (1, .int x1), (2, .int x2)] dX3_take_75 (by decide) rfl ?_
          refine mg_aload_n (pc := 77) hC 4 dX3_take_77 rfl ?_
          refine mg_iload (pc := 78) hC 1 dX3_take_78 rfl ?_
          refine mg_aload_n (pc := 80) hC 3 dX3_take_80 rfl ?_
          refine mg_getI (pc := 81) (ci := 2) (k := 3) hC mi_2 rfl (by decide) mw_78 dX3_take_81 (fun v15 _ => ?_)
          refine mg_aload (pc := 84) hC 2 dX3_take_84 rfl ?_
          refine mg_iload (pc := 86) hC 0 dX3_take_86 rfl ?_
          refine mg_recv (ci := 3) (fun hb => ?_)
          refine mg_cAL (pc := 88) (fun r hr => mg_VR (rest := []) (av := [.int v5, .int v15, .ref a4, .int (v14.toInt32)]) (ci := 3) hC wdX3_digitsTakenOut mw_343 dX3_take_88 rfl rfl ⟨Nat.le_of_ble_eq_true rfl, Nat.le_of_ble_eq_true rfl⟩ (Nat.le_of_ble_eq_true rfl) hb (kX3_digitsTakenOut hr)) (fun v16 w17 kc18 ks19 _ => ?_)
          refine mg_lstore (pc := 91) hC [(7, .long v16), (6, .int (v14.toInt32)), (5, .int v5), (4, .ref a4), (3, .ref a3), (0, .ref x0), (1, .int x1), (2, .int x2)] dX3_take_91 (by decide) rfl ?_
          refine mg_lload (pc := 93) hC 0 dX3_take_93 rfl ?_
          refine mg_lconst (pc := 95) hC (0 : Int64) dX3_take_95 (by decide) ?_
          refine mg_lcmp (pc := 96) hC dX3_take_96 ?_
          refine mg_if_lt (pc := 97) hC 112 dX3_take_97 (by decide) (fun _ => ?_) (fun _ => ?_)
          · refine mg_bipush (pc := 112) hC (-4 : Int32) dX3_take_112 (by decide) ?_
            exact mg_iret (pc := 114) hC rfl dX3_take_114
          · refine mg_lload (pc := 100) hC 0 dX3_take_100 rfl ?_
            refine mg_iload (pc := 102) hC 1 dX3_take_102 rfl ?_
            refine mg_cRI (pc := 104) (fun r hr => mg_S (rest := [.long v16]) hC wdX3_ones mw_121 mw_120 dX3_take_104 rfl rfl ⟨Nat.le_of_ble_eq_true rfl, Nat.le_of_ble_eq_true rfl⟩ (Nat.le_of_ble_eq_true rfl) (kX3_ones hr)) (fun v20 _ => ?_)
            refine mg_i2l (pc := 107) hC dX3_take_107 ?_
            refine mg_lcmp (pc := 108) hC dX3_take_108 ?_
            refine mg_if_ne (pc := 109) hC 115 dX3_take_109 (by decide) (fun _ => ?_) (fun _ => ?_)
            · refine mg_bipush (pc := 112) hC (-4 : Int32) dX3_take_112 (by decide) ?_
              exact mg_iret (pc := 114) hC rfl dX3_take_114
            · refine mg_aload_n (pc := 115) hC 5 dX3_take_115 rfl ?_
              refine mg_lload (pc := 116) hC 0 dX3_take_116 rfl ?_
              refine mg_iload (pc := 118) hC 1 dX3_take_118 rfl ?_
              refine mg_cRI (pc := 120) (fun r hr => mg_S (rest := [.long v16, .ref x0]) hC wdX3_ones mw_121 mw_120 dX3_take_120 rfl rfl ⟨Nat.le_of_ble_eq_true rfl, Nat.le_of_ble_eq_true rfl⟩ (Nat.le_of_ble_eq_true rfl) (kX3_ones hr)) (fun v21 _ => ?_)
              refine mg_i2l (pc := 123) hC dX3_take_123 ?_
              refine mg_recv (ci := 3) (fun hb => ?_)
              refine mg_cAI (pc := 124) (fun r hr => mg_VR (rest := []) (av := [.long v16, .long (v21.toInt64)]) (ci := 3) hC wdX3_keep mw_41 dX3_take_124 rfl rfl ⟨Nat.le_of_ble_eq_true rfl, Nat.le_of_ble_eq_true rfl⟩ (Nat.le_of_ble_eq_true rfl) hb (kX3_keep hr)) (fun v22 w23 kc24 ks25 _ => ?_)
              exact mg_iret (pc := 127) hC rfl dX3_take_127
        · refine mg_bipush (pc := 48) hC (-2 : Int32) dX3_take_48 (by decide) ?_
          exact mg_iret (pc := 50) hC rfl dX3_take_50
theorem wdX3_take : mg_WdV 3 yX3_take cX3_take 9 (some .int) 2 := ⟨⟨mw_342, mw_1, by decide, by decide, by decide +kernel⟩, _, rfl, mw_340, mw_341⟩
def fX3_isSheet (x0 : Int32) : Option (Int32) := if x0 < 0 then (some (0 : Int32)) else (if (4 : Int32) ≤ x0 then (some (0 : Int32)) else (some (1 : Int32)))
set_option maxHeartbeats 4000000 in
set_option maxRecDepth 100000 in
theorem kX3_isSheet {E : mg_P} {l : Launch} {x0 : Int32} {w : mg_H} {sz : Nat} {o : Int32} (hf : fX3_isSheet x0 = some o) : mg_C E l yX3_isSheet cX3_isSheet 1 (some .boolean) 0 0 [.int x0] w sz ((mg_oR mg_vI w) o) := by
  refine mg_meth (out := (mg_oR mg_vI w)) (by decide) (Nat.le_of_ble_eq_true rfl) hf ?_
  intro p e C S s m below meth c hC hin
  have hC : mg_Cx E p s m _ meth c cX3_isSheet 1 (some .boolean) RX3 := hC
  unfold fX3_isSheet
  refine mg_sub (pc := 0) [0] (L' := [(0, .int x0)]) rfl ?_
  refine mg_iload_n (pc := 0) hC 0 dX3_isSheet_0 rfl ?_
  refine mg_if_lt (pc := 1) hC 13 dX3_isSheet_1 (by decide) (fun _ => ?_) (fun _ => ?_)
  · refine mg_iconst (pc := 13) hC (0 : Int32) dX3_isSheet_13 (by decide) ?_
    exact mg_zretC (pc := 14) hC (by decide) rfl dX3_isSheet_14
  · refine mg_iload_n (pc := 4) hC 0 dX3_isSheet_4 rfl ?_
    refine mg_iconst (pc := 5) hC (4 : Int32) dX3_isSheet_5 (by decide) ?_
    refine mg_icmp_ge (pc := 6) hC 13 dX3_isSheet_6 (by decide) (fun _ => ?_) (fun _ => ?_)
    · refine mg_iconst (pc := 13) hC (0 : Int32) dX3_isSheet_13 (by decide) ?_
      exact mg_zretC (pc := 14) hC (by decide) rfl dX3_isSheet_14
    · refine mg_iconst (pc := 9) hC (1 : Int32) dX3_isSheet_9 (by decide) ?_
      refine mg_goto (pc := 10) hC 14 dX3_isSheet_10 (by decide) ?_
      exact mg_zretC (pc := 14) hC (by decide) rfl dX3_isSheet_14
theorem wdX3_isSheet : mg_Wd yX3_isSheet cX3_isSheet 1 (some .boolean) 1 := ⟨mw_355, mw_1, by decide, by decide, by decide +kernel⟩
def fX3_isLane (x0 : Int32) : Option (Int32) := if x0 = 0 then (some (1 : Int32)) else (if x0 = (1 : Int32) then (some (1 : Int32)) else (some (0 : Int32)))
set_option maxHeartbeats 4000000 in
set_option maxRecDepth 100000 in
theorem kX3_isLane {E : mg_P} {l : Launch} {x0 : Int32} {w : mg_H} {sz : Nat} {o : Int32} (hf : fX3_isLane x0 = some o) : mg_C E l yX3_isLane cX3_isLane 1 (some .boolean) 0 0 [.int x0] w sz ((mg_oR mg_vI w) o) := by
  refine mg_meth (out := (mg_oR mg_vI w)) (by decide) (Nat.le_of_ble_eq_true rfl) hf ?_
  intro p e C S s m below meth c hC hin
  have hC : mg_Cx E p s m _ meth c cX3_isLane 1 (some .boolean) RX3 := hC
  unfold fX3_isLane
  refine mg_sub (pc := 0) [0] (L' := [(0, .int x0)]) rfl ?_
  refine mg_iload_n (pc := 0) hC 0 dX3_isLane_0 rfl ?_
  refine mg_if_eq (pc := 1) hC 9 dX3_isLane_1 (by decide) (fun _ => ?_) (fun _ => ?_)
  · refine mg_iconst (pc := 9) hC (1 : Int32) dX3_isLane_9 (by decide) ?_
    refine mg_goto (pc := 10) hC 14 dX3_isLane_10 (by decide) ?_
    exact mg_zretC (pc := 14) hC (by decide) rfl dX3_isLane_14
  · refine mg_iload_n (pc := 4) hC 0 dX3_isLane_4 rfl ?_
    refine mg_iconst (pc := 5) hC (1 : Int32) dX3_isLane_5 (by decide) ?_
    refine mg_icmp_ne (pc := 6) hC 13 dX3_isLane_6 (by decide) (fun _ => ?_) (fun _ => ?_)
    · refine mg_iconst (pc := 9) hC (1 : Int32) dX3_isLane_9 (by decide) ?_
      refine mg_goto (pc := 10) hC 14 dX3_isLane_10 (by decide) ?_
      exact mg_zretC (pc := 14) hC (by decide) rfl dX3_isLane_14
    · refine mg_iconst (pc := 13) hC (0 : Int32) dX3_isLane_13 (by decide) ?_
      exact mg_zretC (pc := 14) hC (by decide) rfl dX3_isLane_14
theorem wdX3_isLane : mg_Wd yX3_isLane cX3_isLane 1 (some .boolean) 1 := ⟨mw_358, mw_1, by decide, by decide, by decide +kernel⟩
end MG05
