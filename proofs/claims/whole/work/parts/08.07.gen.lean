section MG07
variable {E : mg_P} {p : Program} {l : Launch} {e : Env} {C S : Nat} {s : State} {m : MethodId} {args : Array Value} {below : List Frame} {meth : Method} {c : Code}
def fX4_isOfLength (x0 : Int64) (x2 : Int32) : Option (Int32) := (fX4_whole x2).bind fun v1 => (fX4_whole x2).bind fun v2 => (fX4_divisor x0 v2).bind fun v3 => if v3 = 0 then none else ((fX4_lengthOf (v1 / v3)).bind fun v4 => if v4 = x2 then (some (1 : Int32)) else (some (0 : Int32)))
set_option maxHeartbeats 4000000 in
set_option maxRecDepth 100000 in
theorem kX4_isOfLength {E : mg_P} {l : Launch} {x0 : Int64} {x2 : Int32} {w : mg_H} {sz : Nat} {o : Int32} (hf : fX4_isOfLength x0 x2 = some o) : mg_C E l yX4_isOfLength cX4_isOfLength 3 (some .boolean) 1 29 [.long x0, .int x2] w sz ((mg_oR mg_vI w) o) := by
  refine mg_meth (out := (mg_oR mg_vI w)) (by decide) (Nat.le_of_ble_eq_true rfl) hf ?_
  intro p e C S s m below meth c hC hin
  have hC : mg_Cx E p s m _ meth c cX4_isOfLength 3 (some .boolean) RX4 := hC
  unfold fX4_isOfLength
  refine mg_sub (pc := 0) [0, 1] (L' := [(0, .long x0), (2, .int x2)]) rfl ?_
  refine mg_iload_n (pc := 0) hC 1 dX4_isOfLength_0 rfl ?_
  refine mg_cRL (pc := 1) (fun r hr => mg_S (rest := []) hC wdX4_whole mw_423 mw_422 dX4_isOfLength_1 rfl rfl ⟨Nat.le_of_ble_eq_true rfl, Nat.le_of_ble_eq_true rfl⟩ (Nat.le_of_ble_eq_true rfl) (kX4_whole hr)) (fun v1 _ => ?_)
  refine mg_lload_n (pc := 4) hC 0 dX4_isOfLength_4 rfl ?_
  refine mg_iload_n (pc := 5) hC 1 dX4_isOfLength_5 rfl ?_
  refine mg_cRL (pc := 6) (fun r hr => mg_S (rest := [.long x0, .long v1]) hC wdX4_whole mw_423 mw_422 dX4_isOfLength_6 rfl rfl ⟨Nat.le_of_ble_eq_true rfl, Nat.le_of_ble_eq_true rfl⟩ (Nat.le_of_ble_eq_true rfl) (kX4_whole hr)) (fun v2 _ => ?_)
  refine mg_cRL (pc := 9) (fun r hr => mg_S (rest := [.long v1]) hC wdX4_divisor mw_432 mw_431 dX4_isOfLength_9 rfl rfl ⟨Nat.le_of_ble_eq_true rfl, Nat.le_of_ble_eq_true rfl⟩ (Nat.le_of_ble_eq_true rfl) (kX4_divisor hr)) (fun v3 _ => ?_)
  refine mg_ldiv (pc := 12) hC dX4_isOfLength_12 ?_
  refine mg_cRI (pc := 13) (fun r hr => mg_S (rest := []) hC wdX4_lengthOf mw_435 mw_434 dX4_isOfLength_13 rfl rfl ⟨Nat.le_of_ble_eq_true rfl, Nat.le_of_ble_eq_true rfl⟩ (Nat.le_of_ble_eq_true rfl) (kX4_lengthOf hr)) (fun v4 _ => ?_)
  refine mg_iload_n (pc := 16) hC 1 dX4_isOfLength_16 rfl ?_
  refine mg_icmp_ne (pc := 17) hC 24 dX4_isOfLength_17 (by decide) (fun _ => ?_) (fun _ => ?_)
  · refine mg_iconst (pc := 20) hC (1 : Int32) dX4_isOfLength_20 (by decide) ?_
    refine mg_goto (pc := 21) hC 25 dX4_isOfLength_21 (by decide) ?_
    exact mg_zretC (pc := 25) hC (by decide) rfl dX4_isOfLength_25
  · refine mg_iconst (pc := 24) hC (0 : Int32) dX4_isOfLength_24 (by decide) ?_
    exact mg_zretC (pc := 25) hC (by decide) rfl dX4_isOfLength_25
theorem wdX4_isOfLength : mg_Wd yX4_isOfLength cX4_isOfLength 3 (some .boolean) 2 := ⟨mw_430, mw_2, by decide, by decide, by decide +kernel⟩
def fX4_isBelow (x0 : Int64) (x2 : Int64) (x4 : Int64) (x6 : Int64) : Option (Int32) := if 0 ≤ (lg_cmp (x0 * x6) (x4 * x2)) then (some (0 : Int32)) else (some (1 : Int32))
set_option maxHeartbeats 4000000 in
set_option maxRecDepth 100000 in
theorem kX4_isBelow {E : mg_P} {l : Launch} {x0 : Int64} {x2 : Int64} {x4 : Int64} {x6 : Int64} {w : mg_H} {sz : Nat} {o : Int32} (hf : fX4_isBelow x0 x2 x4 x6 = some o) : mg_C E l yX4_isBelow cX4_isBelow 8 (some .boolean) 0 0 [.long x0, .long x2, .long x4, .long x6] w sz ((mg_oR mg_vI w) o) := by
  refine mg_meth (out := (mg_oR mg_vI w)) (by decide) (Nat.le_of_ble_eq_true rfl) hf ?_
  intro p e C S s m below meth c hC hin
  have hC : mg_Cx E p s m _ meth c cX4_isBelow 8 (some .boolean) RX4 := hC
  unfold fX4_isBelow
  refine mg_sub (pc := 0) [0, 1, 2, 3] (L' := [(0, .long x0), (2, .long x2), (4, .long x4), (6, .long x6)]) rfl ?_
  refine mg_lload_n (pc := 0) hC 0 dX4_isBelow_0 rfl ?_
  refine mg_lload (pc := 1) hC 3 dX4_isBelow_1 rfl ?_
  refine mg_lmul (pc := 3) hC dX4_isBelow_3 ?_
  refine mg_lload (pc := 4) hC 2 dX4_isBelow_4 rfl ?_
  refine mg_lload_n (pc := 6) hC 1 dX4_isBelow_6 rfl ?_
  refine mg_lmul (pc := 7) hC dX4_isBelow_7 ?_
  refine mg_lcmp (pc := 8) hC dX4_isBelow_8 ?_
  refine mg_if_ge (pc := 9) hC 16 dX4_isBelow_9 (by decide) (fun _ => ?_) (fun _ => ?_)
  · refine mg_iconst (pc := 16) hC (0 : Int32) dX4_isBelow_16 (by decide) ?_
    exact mg_zretC (pc := 17) hC (by decide) rfl dX4_isBelow_17
  · refine mg_iconst (pc := 12) hC (1 : Int32) dX4_isBelow_12 (by decide) ?_
    refine mg_goto (pc := 13) hC 17 dX4_isBelow_13 (by decide) ?_
    exact mg_zretC (pc := 17) hC (by decide) rfl dX4_isBelow_17
theorem wdX4_isBelow : mg_Wd yX4_isBelow cX4_isBelow 8 (some .boolean) 4 := ⟨mw_444, mw_2, by decide, by decide, by decide +kernel⟩
def fX4_crosses_b140 (w : mg_H) (r6 : Nat → Int32 → Int64 → Int64 → Int32 → Int32 → Option (Int32)) (x0 : Nat) (x1 : Int32) (x2 : Int64) (x4 : Int64) (x7 : Int32) (s0 : Int32) : Option (Int32) := r6 x0 x1 x2 x4 s0 (x7 + (1 : Int32))
set_option maxHeartbeats 4000000 in
set_option maxRecDepth 100000 in
theorem gX4_crosses_b140 (hC : mg_Cx E p s m args meth c cX4_crosses 12 (some .boolean) RX4) (w : mg_H) (sz : Nat) (r6 : Nat → Int32 → Int64 → Int64 → Int32 → Int32 → Option (Int32)) (hr6 : ∀ (z0 : Nat) (z1 : Int32) (z2 : Int64) (z4 : Int64) (z6 : Int32) (z7 : Int32) (cells slots : Nat), mg_G E p l e ({ frames := 1, cells := C, slots := S, locals := 27 } : Room) s m args below meth c 12 (mg_oR mg_vI w) (r6 z0 z1 z2 z4 z6 z7) w sz cells slots 6 [(0, .ref z0), (1, .int z1), (2, .long z2), (4, .long z4), (6, .int z6), (7, .int z7)] []) (x0 : Nat) (x1 : Int32) (x2 : Int64) (x4 : Int64) (x7 : Int32) (s0 : Int32) (cells slots : Nat) : mg_G E p l e ({ frames := 1, cells := C, slots := S, locals := 27 } : Room) s m args below meth c 12 (mg_oR mg_vI w) (fX4_crosses_b140 w r6 x0 x1 x2 x4 x7 s0) w sz cells slots 140 [(0, .ref x0), (1, .int x1), (2, .long x2), (4, .long x4), (7, .int x7)] [.int s0] := by
  unfold fX4_crosses_b140
  refine mg_istore (pc := 140) hC [(6, .int s0), (0, .ref x0), (1, .int x1), (2, .long x2), (4, .long x4), (7, .int x7)] dX4_crosses_140 (by decide) rfl ?_
  refine mg_iinc (pc := 142) hC 5 (x7 + (1 : Int32)) [(7, .int (x7 + (1 : Int32))), (6, .int s0), (0, .ref x0), (1, .int x1), (2, .long x2), (4, .long x4)] dX4_crosses_142 rfl rfl (by decide) rfl ?_
  refine mg_goto (pc := 145) hC 6 dX4_crosses_145 (by decide) ?_
  exact mg_sub (pc := 6) [2, 3, 4, 5, 1, 0] (L' := [(0, .ref x0), (1, .int x1), (2, .long x2), (4, .long x4), (6, .int s0), (7, .int (x7 + (1 : Int32)))]) rfl (hr6 _ _ _ _ _ _ _ _)
def fX4_crosses_b126 (w : mg_H) (r6 : Nat → Int32 → Int64 → Int64 → Int32 → Int32 → Option (Int32)) (x0 : Nat) (x1 : Int32) (x2 : Int64) (x4 : Int64) (x7 : Int32) (x10 : Int32) (s0 : Int32) : Option (Int32) := if x10 = s0 then (fX4_crosses_b140 w r6 x0 x1 x2 x4 x7 (0 : Int32)) else (fX4_crosses_b140 w r6 x0 x1 x2 x4 x7 (1 : Int32))
set_option maxHeartbeats 4000000 in
set_option maxRecDepth 100000 in
theorem gX4_crosses_b126 (hC : mg_Cx E p s m args meth c cX4_crosses 12 (some .boolean) RX4) (w : mg_H) (sz : Nat) (r6 : Nat → Int32 → Int64 → Int64 → Int32 → Int32 → Option (Int32)) (hr6 : ∀ (z0 : Nat) (z1 : Int32) (z2 : Int64) (z4 : Int64) (z6 : Int32) (z7 : Int32) (cells slots : Nat), mg_G E p l e ({ frames := 1, cells := C, slots := S, locals := 27 } : Room) s m args below meth c 12 (mg_oR mg_vI w) (r6 z0 z1 z2 z4 z6 z7) w sz cells slots 6 [(0, .ref z0), (1, .int z1), (2, .long z2), (4, .long z4), (6, .int z6), (7, .int z7)] []) (x0 : Nat) (x1 : Int32) (x2 : Int64) (x4 : Int64) (x7 : Int32) (x10 : Int32) (s0 : Int32) (cells slots : Nat) : mg_G E p l e ({ frames := 1, cells := C, slots := S, locals := 27 } : Room) s m args below meth c 12 (mg_oR mg_vI w) (fX4_crosses_b126 w r6 x0 x1 x2 x4 x7 x10 s0) w sz cells slots 126 [(0, .ref x0), (1, .int x1), (2, .long x2), (4, .long x4), (7, .int x7), (10, .int x10)] [.int s0] := by
  unfold fX4_crosses_b126
  refine mg_istore (pc := 126) hC [(11, .int s0), (0, .ref x0), (1, .int x1), (2, .long x2), (4, .long x4), (7, .int x7), (10, .int x10)] dX4_crosses_126 (by decide) rfl ?_
  refine mg_iload (pc := 128) hC 6 dX4_crosses_128 rfl ?_
  refine mg_iload (pc := 130) hC 0 dX4_crosses_130 rfl ?_
  refine mg_icmp_eq (pc := 132) hC 139 dX4_crosses_132 (by decide) (fun _ => ?_) (fun _ => ?_)
  · refine mg_iconst (pc := 139) hC (0 : Int32) dX4_crosses_139 (by decide) ?_
    exact mg_sub (pc := 140) [1, 2, 3, 4, 5] (L' := [(0, .ref x0), (1, .int x1), (2, .long x2), (4, .long x4), (7, .int x7)]) rfl (gX4_crosses_b140 hC _ _ _ hr6 _ _ _ _ _ _ _ _)
  · refine mg_iconst (pc := 135) hC (1 : Int32) dX4_crosses_135 (by decide) ?_
    refine mg_goto (pc := 136) hC 140 dX4_crosses_136 (by decide) ?_
    exact mg_sub (pc := 140) [1, 2, 3, 4, 5] (L' := [(0, .ref x0), (1, .int x1), (2, .long x2), (4, .long x4), (7, .int x7)]) rfl (gX4_crosses_b140 hC _ _ _ hr6 _ _ _ _ _ _ _ _)
def fX4_crosses_b125 (w : mg_H) (r6 : Nat → Int32 → Int64 → Int64 → Int32 → Int32 → Option (Int32)) (x0 : Nat) (x1 : Int32) (x2 : Int64) (x4 : Int64) (x7 : Int32) (x10 : Int32) : Option (Int32) := fX4_crosses_b126 w r6 x0 x1 x2 x4 x7 x10 (0 : Int32)
set_option maxHeartbeats 4000000 in
set_option maxRecDepth 100000 in
theorem gX4_crosses_b125 (hC : mg_Cx E p s m args meth c cX4_crosses 12 (some .boolean) RX4) (w : mg_H) (sz : Nat) (r6 : Nat → Int32 → Int64 → Int64 → Int32 → Int32 → Option (Int32)) (hr6 : ∀ (z0 : Nat) (z1 : Int32) (z2 : Int64) (z4 : Int64) (z6 : Int32) (z7 : Int32) (cells slots : Nat), mg_G E p l e ({ frames := 1, cells := C, slots := S, locals := 27 } : Room) s m args below meth c 12 (mg_oR mg_vI w) (r6 z0 z1 z2 z4 z6 z7) w sz cells slots 6 [(0, .ref z0), (1, .int z1), (2, .long z2), (4, .long z4), (6, .int z6), (7, .int z7)] []) (x0 : Nat) (x1 : Int32) (x2 : Int64) (x4 : Int64) (x7 : Int32) (x10 : Int32) (cells slots : Nat) : mg_G E p l e ({ frames := 1, cells := C, slots := S, locals := 27 } : Room) s m args below meth c 12 (mg_oR mg_vI w) (fX4_crosses_b125 w r6 x0 x1 x2 x4 x7 x10) w sz cells slots 125 [(0, .ref x0), (1, .int x1), (2, .long x2), (4, .long x4), (7, .int x7), (10, .int x10)] [] := by
  unfold fX4_crosses_b125
  refine mg_iconst (pc := 125) hC (0 : Int32) dX4_crosses_125 (by decide) ?_
  exact mg_sub (pc := 126) [0, 1, 2, 3, 4, 5] (L' := [(0, .ref x0), (1, .int x1), (2, .long x2), (4, .long x4), (7, .int x7), (10, .int x10)]) rfl (gX4_crosses_b126 hC _ _ _ hr6 _ _ _ _ _ _ _ _ _)
def fX4_crosses_b78 (w : mg_H) (r6 : Nat → Int32 → Int64 → Int64 → Int32 → Int32 → Option (Int32)) (x0 : Nat) (x1 : Int32) (x2 : Int64) (x4 : Int64) (x7 : Int32) (x8 : Int64) (s0 : Int32) : Option (Int32) := (fX4_whole x1).bind fun v1 => mg_gN w 4 x0 6 fun v2 => (mg_ldL w v2 x7).bind fun v3 => (fX4_isBelow x2 v1 v3 x8).bind fun v4 => if v4 = 0 then (fX4_crosses_b125 w r6 x0 x1 x2 x4 x7 s0) else (mg_gN w 4 x0 6 fun v5 => (mg_ldL w v5 x7).bind fun v6 => (fX4_whole x1).bind fun v7 => (fX4_isBelow v6 x8 x4 v7).bind fun v8 => if v8 = 0 then (fX4_crosses_b125 w r6 x0 x1 x2 x4 x7 s0) else (fX4_crosses_b126 w r6 x0 x1 x2 x4 x7 s0 (1 : Int32)))
set_option maxHeartbeats 4000000 in
set_option maxRecDepth 100000 in
theorem gX4_crosses_b78 (hC : mg_Cx E p s m args meth c cX4_crosses 12 (some .boolean) RX4) (w : mg_H) (sz : Nat) (r6 : Nat → Int32 → Int64 → Int64 → Int32 → Int32 → Option (Int32)) (hr6 : ∀ (z0 : Nat) (z1 : Int32) (z2 : Int64) (z4 : Int64) (z6 : Int32) (z7 : Int32) (cells slots : Nat), mg_G E p l e ({ frames := 1, cells := C, slots := S, locals := 27 } : Room) s m args below meth c 12 (mg_oR mg_vI w) (r6 z0 z1 z2 z4 z6 z7) w sz cells slots 6 [(0, .ref z0), (1, .int z1), (2, .long z2), (4, .long z4), (6, .int z6), (7, .int z7)] []) (x0 : Nat) (x1 : Int32) (x2 : Int64) (x4 : Int64) (x7 : Int32) (x8 : Int64) (s0 : Int32) (cells slots : Nat) : mg_G E p l e ({ frames := 1, cells := C, slots := S, locals := 27 } : Room) s m args below meth c 12 (mg_oR mg_vI w) (fX4_crosses_b78 w r6 x0 x1 x2 x4 x7 x8 s0) w sz cells slots 78 [(0, .ref x0), (1, .int x1), (2, .long x2), (4, .long x4), (7, .int x7), (8, .long x8)] [.int s0] := by
  unfold fX4_crosses_b78
  refine mg_istore (pc := 78) hC [(10, .int s0), (0, .ref x0), (1, .int x1), (2, .long x2), (4, .long x4), (7, .int x7), (8, .long x8)] dX4_crosses_78 (by decide) rfl ?_
  refine mg_lload_n (pc := 80) hC 3 dX4_crosses_80 rfl ?_
  refine mg_iload_n (pc := 81) hC 2 dX4_crosses_81 rfl ?_
  refine mg_cRL (pc := 82) (fun r hr => mg_S (rest := [.long x2]) hC wdX4_whole mw_423 mw_422 dX4_crosses_82 rfl rfl ⟨Nat.le_of_ble_eq_true rfl, Nat.le_of_ble_eq_true rfl⟩ (Nat.le_of_ble_eq_true rfl) (kX4_whole hr)) (fun v1 _ => ?_)
  refine mg_aload_n (pc := 85) hC 1 dX4_crosses_85 rfl ?_
  refine mg_getNN (pc := 86) (ci := 4) (k := 6) hC mi_4 rfl (by decide) mw_451 dX4_crosses_86 (fun v2 _ => ?_)
  refine mg_iload (pc := 89) hC 5 dX4_crosses_89 rfl ?_
  refine mg_lald (pc := 91) hC dX4_crosses_91 (fun v3 _ => ?_)
  refine mg_lload (pc := 92) hC 6 dX4_crosses_92 rfl ?_
  refine mg_cRI (pc := 94) (fun r hr => mg_S (rest := []) hC wdX4_isBelow mw_443 mw_442 dX4_crosses_94 rfl rfl ⟨Nat.le_of_ble_eq_true rfl, Nat.le_of_ble_eq_true rfl⟩ (Nat.le_of_ble_eq_true rfl) (kX4_isBelow hr)) (fun v4 _ => ?_)
  refine mg_if_eq (pc := 97) hC 125 dX4_crosses_97 (by decide) (fun _ => ?_) (fun _ => ?_)
  · exact mg_sub (pc := 125) [1, 2, 3, 4, 5, 0] (L' := [(0, .ref x0), (1, .int x1), (2, .long x2), (4, .long x4), (7, .int x7), (10, .int s0)]) rfl (gX4_crosses_b125 hC _ _ _ hr6 _ _ _ _ _ _ _ _)
  · refine mg_aload_n (pc := 100) hC 1 dX4_crosses_100 rfl ?_
    refine mg_getNN (pc := 101) (ci := 4) (k := 6) hC mi_4 rfl (by decide) mw_451 dX4_crosses_101 (fun v5 _ => ?_)
    refine mg_iload (pc := 104) hC 5 dX4_crosses_104 rfl ?_
    refine mg_lald (pc := 106) hC dX4_crosses_106 (fun v6 _ => ?_)
    refine mg_lload (pc := 107) hC 6 dX4_crosses_107 rfl ?_
    refine mg_lload (pc := 109) hC 4 dX4_crosses_109 rfl ?_
    refine mg_iload_n (pc := 111) hC 2 dX4_crosses_111 rfl ?_
    refine mg_cRL (pc := 112) (fun r hr => mg_S (rest := [.long x4, .long x8, .long v6]) hC wdX4_whole mw_423 mw_422 dX4_crosses_112 rfl rfl ⟨Nat.le_of_ble_eq_true rfl, Nat.le_of_ble_eq_true rfl⟩ (Nat.le_of_ble_eq_true rfl) (kX4_whole hr)) (fun v7 _ => ?_)
    refine mg_cRI (pc := 115) (fun r hr => mg_S (rest := []) hC wdX4_isBelow mw_443 mw_442 dX4_crosses_115 rfl rfl ⟨Nat.le_of_ble_eq_true rfl, Nat.le_of_ble_eq_true rfl⟩ (Nat.le_of_ble_eq_true rfl) (kX4_isBelow hr)) (fun v8 _ => ?_)
    refine mg_if_eq (pc := 118) hC 125 dX4_crosses_118 (by decide) (fun _ => ?_) (fun _ => ?_)
    · exact mg_sub (pc := 125) [1, 2, 3, 4, 5, 0] (L' := [(0, .ref x0), (1, .int x1), (2, .long x2), (4, .long x4), (7, .int x7), (10, .int s0)]) rfl (gX4_crosses_b125 hC _ _ _ hr6 _ _ _ _ _ _ _ _)
    · refine mg_iconst (pc := 121) hC (1 : Int32) dX4_crosses_121 (by decide) ?_
      refine mg_goto (pc := 122) hC 126 dX4_crosses_122 (by decide) ?_
      exact mg_sub (pc := 126) [1, 2, 3, 4, 5, 0] (L' := [(0, .ref x0), (1, .int x1), (2, .long x2), (4, .long x4), (7, .int x7), (10, .int s0)]) rfl (gX4_crosses_b126 hC _ _ _ hr6 _ _ _ _ _ _ _ _ _)
def fX4_crosses_b77 (w : mg_H) (r6 : Nat → Int32 → Int64 → Int64 → Int32 → Int32 → Option (Int32)) (x0 : Nat) (x1 : Int32) (x2 : Int64) (x4 : Int64) (x7 : Int32) (x8 : Int64) : Option (Int32) := fX4_crosses_b78 w r6 x0 x1 x2 x4 x7 x8 (0 : Int32)
set_option maxHeartbeats 4000000 in
set_option maxRecDepth 100000 in
theorem gX4_crosses_b77 (hC : mg_Cx E p s m args meth c cX4_crosses 12 (some .boolean) RX4) (w : mg_H) (sz : Nat) (r6 : Nat → Int32 → Int64 → Int64 → Int32 → Int32 → Option (Int32)) (hr6 : ∀ (z0 : Nat) (z1 : Int32) (z2 : Int64) (z4 : Int64) (z6 : Int32) (z7 : Int32) (cells slots : Nat), mg_G E p l e ({ frames := 1, cells := C, slots := S, locals := 27 } : Room) s m args below meth c 12 (mg_oR mg_vI w) (r6 z0 z1 z2 z4 z6 z7) w sz cells slots 6 [(0, .ref z0), (1, .int z1), (2, .long z2), (4, .long z4), (6, .int z6), (7, .int z7)] []) (x0 : Nat) (x1 : Int32) (x2 : Int64) (x4 : Int64) (x7 : Int32) (x8 : Int64) (cells slots : Nat) : mg_G E p l e ({ frames := 1, cells := C, slots := S, locals := 27 } : Room) s m args below meth c 12 (mg_oR mg_vI w) (fX4_crosses_b77 w r6 x0 x1 x2 x4 x7 x8) w sz cells slots 77 [(0, .ref x0), (1, .int x1), (2, .long x2), (4, .long x4), (7, .int x7), (8, .long x8)] [] := by
  unfold fX4_crosses_b77
  refine mg_iconst (pc := 77) hC (0 : Int32) dX4_crosses_77 (by decide) ?_
  exact mg_sub (pc := 78) [0, 1, 2, 3, 4, 5] (L' := [(0, .ref x0), (1, .int x1), (2, .long x2), (4, .long x4), (7, .int x7), (8, .long x8)]) rfl (gX4_crosses_b78 hC _ _ _ hr6 _ _ _ _ _ _ _ _ _)
def fX4_crosses_b6 (w : mg_H) : Nat → Nat → Int32 → Int64 → Int64 → Int32 → Int32 → Option (Int32)
  | 0, _, _, _, _, _, _ => none
  | n + 1, x0, x1, x2, x4, x6, x7 => (mg_gI w 4 x0 3).bind fun v1 => if v1 ≤ x7 then (if x6 &&& 1 = x6 then some x6 else none) else (if x6 = 0 then (mg_gN w 4 x0 4 fun v2 => (mg_ldI w 0 v2 x7).bind fun v3 => (fX4_whole v3).bind fun v4 => (fX4_whole x1).bind fun v5 => mg_gN w 4 x0 5 fun v6 => (mg_ldL w v6 x7).bind fun v7 => (fX4_isBelow x2 v5 v7 v4).bind fun v8 => if v8 = 0 then (fX4_crosses_b77 w (fX4_crosses_b6 w n) x0 x1 x2 x4 x7 v4) else (mg_gN w 4 x0 5 fun v9 => (mg_ldL w v9 x7).bind fun v10 => (fX4_whole x1).bind fun v11 => (fX4_isBelow v10 v4 x4 v11).bind fun v12 => if v12 = 0 then (fX4_crosses_b77 w (fX4_crosses_b6 w n) x0 x1 x2 x4 x7 v4) else (fX4_crosses_b78 w (fX4_crosses_b6 w n) x0 x1 x2 x4 x7 v4 (1 : Int32)))) else (if x6 &&& 1 = x6 then some x6 else none))
set_option maxHeartbeats 4000000 in
set_option maxRecDepth 100000 in
theorem gX4_crosses_b6 (hC : mg_Cx E p s m args meth c cX4_crosses 12 (some .boolean) RX4) (w : mg_H) (sz : Nat) : ∀ (n : Nat) (x0 : Nat) (x1 : Int32) (x2 : Int64) (x4 : Int64) (x6 : Int32) (x7 : Int32) (cells slots : Nat), mg_G E p l e ({ frames := 1, cells := C, slots := S, locals := 27 } : Room) s m args below meth c 12 (mg_oR mg_vI w) (fX4_crosses_b6 w n x0 x1 x2 x4 x6 x7) w sz cells slots 6 [(0, .ref x0), (1, .int x1), (2, .long x2), (4, .long x4), (6, .int x6), (7, .int x7)] [] := by
  intro n
  induction n with
  | zero => intros; exact fun o hf => by rw [fX4_crosses_b6] at hf; cases hf
  | succ n ih =>
    intro x0 x1 x2 x4 x6 x7 cells slots
    rw [fX4_crosses_b6]
    refine mg_iload (pc := 6) hC 5 dX4_crosses_6 rfl ?_
    refine mg_aload_n (pc := 8) hC 0 dX4_crosses_8 rfl ?_
    refine mg_getI (pc := 9) (ci := 4) (k := 3) hC mi_4 rfl (by decide) mw_448 dX4_crosses_9 (fun v1 _ => ?_)
    refine mg_icmp_ge (pc := 12) hC 148 dX4_crosses_12 (by decide) (fun _ => ?_) (fun _ => ?_)
    · refine mg_iload (pc := 148) hC 4 dX4_crosses_148 rfl ?_
      exact mg_zret (pc := 150) hC rfl dX4_crosses_150
    · refine mg_iload (pc := 15) hC 4 dX4_crosses_15 rfl ?_
      refine mg_if_ne (pc := 17) hC 148 dX4_crosses_17 (by decide) (fun _ => ?_) (fun _ => ?_)
      · refine mg_aload_n (pc := 20) hC 0 dX4_crosses_20 rfl ?_
        refine mg_getNN (pc := 21) (ci := 4) (k := 4) hC mi_4 rfl (by decide) mw_449 dX4_crosses_21 (fun v2 _ => ?_)
        refine mg_iload (pc := 24) hC 5 dX4_crosses_24 rfl ?_
        refine mg_iald (pc := 26) hC dX4_crosses_26 (fun v3 _ => ?_)
        refine mg_cRL (pc := 27) (fun r hr => mg_S (rest := []) hC wdX4_whole mw_423 mw_422 dX4_crosses_27 rfl rfl ⟨Nat.le_of_ble_eq_true rfl, Nat.le_of_ble_eq_true rfl⟩ (Nat.le_of_ble_eq_true rfl) (kX4_whole hr)) (fun v4 _ => ?_)
        refine mg_lstore (pc := 30) hC [(8, .long v4), (0, .ref x0), (1, .int x1), (2, .long x2), (4, .long x4), (6, .int x6), (7, .int x7)] dX4_crosses_30 (by decide) rfl ?_
        refine mg_lload_n (pc := 32) hC 3 dX4_crosses_32 rfl ?_
        refine mg_iload_n (pc := 33) hC 2 dX4_crosses_33 rfl ?_
        refine mg_cRL (pc := 34) (fun r hr => mg_S (rest := [.long x2]) hC wdX4_whole mw_423 mw_422 dX4_crosses_34 rfl rfl ⟨Nat.le_of_ble_eq_true rfl, Nat.le_of_ble_eq_true rfl⟩ (Nat.le_of_ble_eq_true rfl) (kX4_whole hr)) (fun v5 _ => ?_)
        refine mg_aload_n (pc := 37) hC 1 dX4_crosses_37 rfl ?_
        refine mg_getNN (pc := 38) (ci := 4) (k := 5) hC mi_4 rfl (by decide) mw_450 dX4_crosses_38 (fun v6 _ => ?_)
        refine mg_iload (pc := 41) hC 6 dX4_crosses_41 rfl ?_
        refine mg_lald (pc := 43) hC dX4_crosses_43 (fun v7 _ => ?_)
        refine mg_lload (pc := 44) hC 0 dX4_crosses_44 rfl ?_
        refine mg_cRI (pc := 46) (fun r hr => mg_S (rest := []) hC wdX4_isBelow mw_443 mw_442 dX4_crosses_46 rfl rfl ⟨Nat.le_of_ble_eq_true rfl, Nat.le_of_ble_eq_true rfl⟩ (Nat.le_of_ble_eq_true rfl) (kX4_isBelow hr)) (fun v8 _ => ?_)
        refine mg_if_eq (pc := 49) hC 77 dX4_crosses_49 (by decide) (fun _ => ?_) (fun _ => ?_)
        · exact mg_sub (pc := 77) [1, 2, 3, 4, 6, 0] (L' := [(0, .ref x0), (1, .int x1), (2, .long x2), (4, .long x4), (7, .int x7), (8, .long v4)]) rfl (gX4_crosses_b77 hC _ _ _ ih _ _ _ _ _ _ _ _)
        · refine mg_aload_n (pc := 52) hC 1 dX4_crosses_52 rfl ?_
          refine mg_getNN (pc := 53) (ci := 4) (k := 5) hC mi_4 rfl (by decide) mw_450 dX4_crosses_53 (fun v9 _ => ?_)
          refine mg_iload (pc := 56) hC 6 dX4_crosses_56 rfl ?_
          refine mg_lald (pc := 58) hC dX4_crosses_58 (fun v10 _ => ?_)
          refine mg_lload (pc := 59) hC 0 dX4_crosses_59 rfl ?_
          refine mg_lload (pc := 61) hC 4 dX4_crosses_61 rfl ?_
          refine mg_iload_n (pc := 63) hC 2 dX4_crosses_63 rfl ?_
          refine mg_cRL (pc := 64) (fun r hr => mg_S (rest := [.long x4, .long v4, .long v10]) hC wdX4_whole mw_423 mw_422 dX4_crosses_64 rfl rfl ⟨Nat.le_of_ble_eq_true rfl, Nat.le_of_ble_eq_true rfl⟩ (Nat.le_of_ble_eq_true rfl) (kX4_whole hr)) (fun v11 _ => ?_)
          refine mg_cRI (pc := 67) (fun r hr => mg_S (rest := []) hC wdX4_isBelow mw_443 mw_442 dX4_crosses_67 rfl rfl ⟨Nat.le_of_ble_eq_true rfl, Nat.le_of_ble_eq_true rfl⟩ (Nat.le_of_ble_eq_true rfl) (kX4_isBelow hr)) (fun v12 _ => ?_)
          refine mg_if_eq (pc := 70) hC 77 dX4_crosses_70 (by decide) (fun _ => ?_) (fun _ => ?_)
          · exact mg_sub (pc := 77) [1, 2, 3, 4, 6, 0] (L' := [(0, .ref x0), (1, .int x1), (2, .long x2), (4, .long x4), (7, .int x7), (8, .long v4)]) rfl (gX4_crosses_b77 hC _ _ _ ih _ _ _ _ _ _ _ _)
          · refine mg_iconst (pc := 73) hC (1 : Int32) dX4_crosses_73 (by decide) ?_
            refine mg_goto (pc := 74) hC 78 dX4_crosses_74 (by decide) ?_
            exact mg_sub (pc := 78) [1, 2, 3, 4, 6, 0] (L' := [(0, .ref x0), (1, .int x1), (2, .long x2), (4, .long x4), (7, .int x7), (8, .long v4)]) rfl (gX4_crosses_b78 hC _ _ _ ih _ _ _ _ _ _ _ _ _)
      · refine mg_iload (pc := 148) hC 4 dX4_crosses_148 rfl ?_
        exact mg_zret (pc := 150) hC rfl dX4_crosses_150
def fX4_crosses (x0 : Nat) (x1 : Int32) (x2 : Int64) (x4 : Int64) (w : mg_H) : Option (Int32) := fX4_crosses_b6 w mg_N x0 x1 x2 x4 (0 : Int32) (0 : Int32)
set_option maxHeartbeats 4000000 in
set_option maxRecDepth 100000 in
theorem kX4_crosses {E : mg_P} {l : Launch} {x0 : Nat} {x1 : Int32} {x2 : Int64} {x4 : Int64} {w : mg_H} {sz : Nat} {o : Int32} (hf : fX4_crosses x0 x1 x2 x4 w = some o) : mg_C E l yX4_crosses cX4_crosses 12 (some .boolean) 1 27 [.ref x0, .int x1, .long x2, .long x4] w sz ((mg_oR mg_vI w) o) := by
  refine mg_meth (out := (mg_oR mg_vI w)) (by decide) (Nat.le_of_ble_eq_true rfl) hf ?_
  intro p e C S s m below meth c hC hin
  have hC : mg_Cx E p s m _ meth c cX4_crosses 12 (some .boolean) RX4 := hC
  unfold fX4_crosses
  refine mg_sub (pc := 0) [0, 1, 2, 3] (L' := [(0, .ref x0), (1, .int x1), (2, .long x2), (4, .long x4)]) rfl ?_
  refine mg_iconst (pc := 0) hC (0 : Int32) dX4_crosses_0 (by decide) ?_
  refine mg_istore (pc := 1) hC [(6, .int (0 : Int32)), (0, .ref x0), (1, .int x1), (2, .long x2), (4, .long x4)] dX4_crosses_1 (by decide) rfl ?_
  refine mg_iconst (pc := 3) hC (0 : Int32) dX4_crosses_3 (by decide) ?_
  refine mg_istore (pc := 4) hC [(7, .int (0 : Int32)), (6, .int (0 : Int32)), (0, .ref x0), (1, .int x1), (2, .long x2), (4, .long x4)] dX4_crosses_4 (by decide) rfl ?_
  exact mg_sub (pc := 6) [2, 3, 4, 5, 1, 0] (L' := [(0, .ref x0), (1, .int x1), (2, .long x2), (4, .long x4), (6, .int (0 : Int32)), (7, .int (0 : Int32))]) rfl (gX4_crosses_b6 hC _ _  _ _ _ _ _ _ _ _ _)
theorem wdX4_crosses : mg_WdV 4 yX4_crosses cX4_crosses 12 (some .boolean) 3 := ⟨⟨mw_441, mw_2, by decide, by decide, by decide +kernel⟩, _, rfl, mw_440, mw_p20⟩
def fX4_findPairs_b146 (r9 : Nat → Int32 → mg_H → Option (Unit × mg_H)) (x0 : Nat) (x1 : Int32) (w : mg_H) : Option (Unit × mg_H) := r9 x0 (x1 + (1 : Int32)) w
set_option maxHeartbeats 4000000 in
set_option maxRecDepth 100000 in
theorem gX4_findPairs_b146 (hC : mg_Cx E p s m args meth c cX4_findPairs 4 none RX4) (sz : Nat) (r9 : Nat → Int32 → mg_H → Option (Unit × mg_H)) (hr9 : ∀ (z0 : Nat) (z1 : Int32) (w : mg_H) (cells slots : Nat), mg_G E p l e ({ frames := 2, cells := C, slots := S, locals := 58 } : Room) s m args below meth c 4 (mg_oS mg_vV) (r9 z0 z1 w) w sz cells slots 9 [(0, .ref z0), (1, .int z1)] []) (x0 : Nat) (x1 : Int32) (w : mg_H) (cells slots : Nat) : mg_G E p l e ({ frames := 2, cells := C, slots := S, locals := 58 } : Room) s m args below meth c 4 (mg_oS mg_vV) (fX4_findPairs_b146 r9 x0 x1 w) w sz cells slots 146 [(0, .ref x0), (1, .int x1)] [] := by
  unfold fX4_findPairs_b146
  refine mg_iinc (pc := 146) hC 1 (x1 + (1 : Int32)) [(1, .int (x1 + (1 : Int32))), (0, .ref x0)] dX4_findPairs_146 rfl rfl (by decide) rfl ?_
  refine mg_goto (pc := 149) hC 9 dX4_findPairs_149 (by decide) ?_
  exact mg_sub (pc := 9) [1, 0] (L' := [(0, .ref x0), (1, .int (x1 + (1 : Int32)))]) rfl (hr9 _ _ _ _ _)
def fX4_findPairs_b140 (r9 : Nat → Int32 → mg_H → Option (Unit × mg_H)) (r67 : Nat → Int32 → Int32 → mg_H → Option (Unit × mg_H)) (x0 : Nat) (x1 : Int32) (x2 : Int32) (w : mg_H) : Option (Unit × mg_H) := r67 x0 x1 (x2 + (1 : Int32)) w
set_option maxHeartbeats 4000000 in
set_option maxRecDepth 100000 in
theorem gX4_findPairs_b140 (hC : mg_Cx E p s m args meth c cX4_findPairs 4 none RX4) (sz : Nat) (r9 : Nat → Int32 → mg_H → Option (Unit × mg_H)) (hr9 : ∀ (z0 : Nat) (z1 : Int32) (w : mg_H) (cells slots : Nat), mg_G E p l e ({ frames := 2, cells := C, slots := S, locals := 58 } : Room) s m args below meth c 4 (mg_oS mg_vV) (r9 z0 z1 w) w sz cells slots 9 [(0, .ref z0), (1, .int z1)] []) (r67 : Nat → Int32 → Int32 → mg_H → Option (Unit × mg_H)) (hr67 : ∀ (z0 : Nat) (z1 : Int32) (z2 : Int32) (w : mg_H) (cells slots : Nat), mg_G E p l e ({ frames := 2, cells := C, slots := S, locals := 58 } : Room) s m args below meth c 4 (mg_oS mg_vV) (r67 z0 z1 z2 w) w sz cells slots 67 [(0, .ref z0), (1, .int z1), (2, .int z2)] []) (x0 : Nat) (x1 : Int32) (x2 : Int32) (w : mg_H) (cells slots : Nat) : mg_G E p l e ({ frames := 2, cells := C, slots := S, locals := 58 } : Room) s m args below meth c 4 (mg_oS mg_vV) (fX4_findPairs_b140 r9 r67 x0 x1 x2 w) w sz cells slots 140 [(0, .ref x0), (1, .int x1), (2, .int x2)] [] := by
  unfold fX4_findPairs_b140
  refine mg_iinc (pc := 140) hC 2 (x2 + (1 : Int32)) [(2, .int (x2 + (1 : Int32))), (0, .ref x0), (1, .int x1)] dX4_findPairs_140 rfl rfl (by decide) rfl ?_
  refine mg_goto (pc := 143) hC 67 dX4_findPairs_143 (by decide) ?_
  exact mg_sub (pc := 67) [1, 2, 0] (L' := [(0, .ref x0), (1, .int x1), (2, .int (x2 + (1 : Int32)))]) rfl (hr67 _ _ _ _ _ _)
def fX4_findPairs_b117 (r9 : Nat → Int32 → mg_H → Option (Unit × mg_H)) (r67 : Nat → Int32 → Int32 → mg_H → Option (Unit × mg_H)) (x0 : Nat) (x1 : Int32) (x2 : Int32) (x3 : Int32) (w : mg_H) : Option (Unit × mg_H) := mg_gN w 4 x0 7 fun v1 => (mg_stZ w v1 x2 (1 : Int32)).bind fun w2 => mg_gN w2 4 x0 7 fun v3 => (mg_stZ w2 v3 x3 (1 : Int32)).bind fun w4 => mg_rc w4 4 x0 (mg_bS (fX4_pairs0 x0 x1 (x2.toInt64) (x3.toInt64) w4) fun _ w6 => fX4_findPairs_b140 r9 r67 x0 x1 x2 w6)
set_option maxHeartbeats 4000000 in
set_option maxRecDepth 100000 in
theorem gX4_findPairs_b117 (hC : mg_Cx E p s m args meth c cX4_findPairs 4 none RX4) (sz : Nat) (r9 : Nat → Int32 → mg_H → Option (Unit × mg_H)) (hr9 : ∀ (z0 : Nat) (z1 : Int32) (w : mg_H) (cells slots : Nat), mg_G E p l e ({ frames := 2, cells := C, slots := S, locals := 58 } : Room) s m args below meth c 4 (mg_oS mg_vV) (r9 z0 z1 w) w sz cells slots 9 [(0, .ref z0), (1, .int z1)] []) (r67 : Nat → Int32 → Int32 → mg_H → Option (Unit × mg_H)) (hr67 : ∀ (z0 : Nat) (z1 : Int32) (z2 : Int32) (w : mg_H) (cells slots : Nat), mg_G E p l e ({ frames := 2, cells := C, slots := S, locals := 58 } : Room) s m args below meth c 4 (mg_oS mg_vV) (r67 z0 z1 z2 w) w sz cells slots 67 [(0, .ref z0), (1, .int z1), (2, .int z2)] []) (x0 : Nat) (x1 : Int32) (x2 : Int32) (x3 : Int32) (w : mg_H) (cells slots : Nat) : mg_G E p l e ({ frames := 2, cells := C, slots := S, locals := 58 } : Room) s m args below meth c 4 (mg_oS mg_vV) (fX4_findPairs_b117 r9 r67 x0 x1 x2 x3 w) w sz cells slots 117 [(0, .ref x0), (1, .int x1), (2, .int x2), (3, .int x3)] [] := by
  unfold fX4_findPairs_b117
  refine mg_aload_n (pc := 117) hC 0 dX4_findPairs_117 rfl ?_
  refine mg_getNN (pc := 118) (ci := 4) (k := 7) hC mi_4 rfl (by decide) mw_452 dX4_findPairs_118 (fun v1 _ => ?_)
  refine mg_iload_n (pc := 121) hC 2 dX4_findPairs_121 rfl ?_
  refine mg_iconst (pc := 122) hC (1 : Int32) dX4_findPairs_122 (by decide) ?_
  refine mg_zast (pc := 123) hC dX4_findPairs_123 (fun w2 _ => ?_)
  refine mg_aload_n (pc := 124) hC 0 dX4_findPairs_124 rfl ?_
  refine mg_getNN (pc := 125) (ci := 4) (k := 7) hC mi_4 rfl (by decide) mw_452 dX4_findPairs_125 (fun v3 _ => ?_)
  refine mg_iload_n (pc := 128) hC 3 dX4_findPairs_128 rfl ?_
  refine mg_iconst (pc := 129) hC (1 : Int32) dX4_findPairs_129 (by decide) ?_
  refine mg_zast (pc := 130) hC dX4_findPairs_130 (fun w4 _ => ?_)
  refine mg_aload_n (pc := 131) hC 0 dX4_findPairs_131 rfl ?_
  refine mg_iload_n (pc := 132) hC 1 dX4_findPairs_132 rfl ?_
  refine mg_iload_n (pc := 133) hC 2 dX4_findPairs_133 rfl ?_
  refine mg_i2l (pc := 134) hC dX4_findPairs_134 ?_
  refine mg_iload_n (pc := 135) hC 3 dX4_findPairs_135 rfl ?_
  refine mg_i2l (pc := 136) hC dX4_findPairs_136 ?_
  refine mg_recv (ci := 4) (fun hb => ?_)
  refine mg_cSV (pc := 137) (fun r hr => mg_VR (rest := []) (av := [.int x1, .long (x2.toInt64), .long (x3.toInt64)]) (ci := 4) hC wdX4_pairs0 mw_418 dX4_findPairs_137 rfl rfl ⟨Nat.le_of_ble_eq_true rfl, Nat.le_of_ble_eq_true rfl⟩ (Nat.le_of_ble_eq_true rfl) hb (kX4_pairs0 hr)) (fun _ w6 _ => ?_)
  exact mg_sub (pc := 140) [0, 1, 2] (L' := [(0, .ref x0), (1, .int x1), (2, .int x2)]) rfl (gX4_findPairs_b140 hC _ _ hr9 _ hr67 _ _ _ _ _ _)
def fX4_findPairs_b111 (r9 : Nat → Int32 → mg_H → Option (Unit × mg_H)) (r67 : Nat → Int32 → Int32 → mg_H → Option (Unit × mg_H)) (r90 : Nat → Int32 → Int32 → Int32 → mg_H → Option (Unit × mg_H)) (x0 : Nat) (x1 : Int32) (x2 : Int32) (x3 : Int32) (w : mg_H) : Option (Unit × mg_H) := r90 x0 x1 x2 (x3 + (1 : Int32)) w
set_option maxHeartbeats 4000000 in
set_option maxRecDepth 100000 in
theorem gX4_findPairs_b111 (hC : mg_Cx E p s m args meth c cX4_findPairs 4 none RX4) (sz : Nat) (r9 : Nat → Int32 → mg_H → Option (Unit × mg_H)) (hr9 : ∀ (z0 : Nat) (z1 : Int32) (w : mg_H) (cells slots : Nat), mg_G E p l e ({ frames := 2, cells := C, slots := S, locals := 58 } : Room) s m args below meth c 4 (mg_oS mg_vV) (r9 z0 z1 w) w sz cells slots 9 [(0, .ref z0), (1, .int z1)] []) (r67 : Nat → Int32 → Int32 → mg_H → Option (Unit × mg_H)) (hr67 : ∀ (z0 : Nat) (z1 : Int32) (z2 : Int32) (w : mg_H) (cells slots : Nat), mg_G E p l e ({ frames := 2, cells := C, slots := S, locals := 58 } : Room) s m args below meth c 4 (mg_oS mg_vV) (r67 z0 z1 z2 w) w sz cells slots 67 [(0, .ref z0), (1, .int z1), (2, .int z2)] []) (r90 : Nat → Int32 → Int32 → Int32 → mg_H → Option (Unit × mg_H)) (hr90 : ∀ (z0 : Nat) (z1 : Int32) (z2 : Int32) (z3 : Int32) (w : mg_H) (cells slots : Nat), mg_G E p l e ({ frames := 2, cells := C, slots := S, locals := 58 } : Room) s m args below meth c 4 (mg_oS mg_vV) (r90 z0 z1 z2 z3 w) w sz cells slots 90 [(0, .ref z0), (1, .int z1), (2, .int z2), (3, .int z3)] []) (x0 : Nat) (x1 : Int32) (x2 : Int32) (x3 : Int32) (w : mg_H) (cells slots : Nat) : mg_G E p l e ({ frames := 2, cells := C, slots := S, locals := 58 } : Room) s m args below meth c 4 (mg_oS mg_vV) (fX4_findPairs_b111 r9 r67 r90 x0 x1 x2 x3 w) w sz cells slots 111 [(0, .ref x0), (1, .int x1), (2, .int x2), (3, .int x3)] [] := by
  unfold fX4_findPairs_b111
  refine mg_iinc (pc := 111) hC 3 (x3 + (1 : Int32)) [(3, .int (x3 + (1 : Int32))), (0, .ref x0), (1, .int x1), (2, .int x2)] dX4_findPairs_111 rfl rfl (by decide) rfl ?_
  refine mg_goto (pc := 114) hC 90 dX4_findPairs_114 (by decide) ?_
  exact mg_sub (pc := 90) [1, 2, 3, 0] (L' := [(0, .ref x0), (1, .int x1), (2, .int x2), (3, .int (x3 + (1 : Int32)))]) rfl (hr90 _ _ _ _ _ _ _)
def fX4_findPairs_b90 (r9 : Nat → Int32 → mg_H → Option (Unit × mg_H)) (r67 : Nat → Int32 → Int32 → mg_H → Option (Unit × mg_H)) : Nat → Nat → Int32 → Int32 → Int32 → mg_H → Option (Unit × mg_H)
  | 0, _, _, _, _, _ => none
  | n + 1, x0, x1, x2, x3, w => mg_gN w 4 x0 7 fun v1 => (mg_ldI w 1 v1 x3).bind fun v2 => if v2 = 0 then (mg_rc w 4 x0 ((fX4_crosses x0 x1 (x2.toInt64) (x3.toInt64) w).bind fun v3 => if v3 = 0 then (fX4_findPairs_b117 r9 r67 x0 x1 x2 x3 w) else (fX4_findPairs_b111 r9 r67 (fX4_findPairs_b90 r9 r67 n) x0 x1 x2 x3 w))) else (fX4_findPairs_b111 r9 r67 (fX4_findPairs_b90 r9 r67 n) x0 x1 x2 x3 w)
set_option maxHeartbeats 4000000 in
set_option maxRecDepth 100000 in
theorem gX4_findPairs_b90 (hC : mg_Cx E p s m args meth c cX4_findPairs 4 none RX4) (sz : Nat) (r9 : Nat → Int32 → mg_H → Option (Unit × mg_H)) (hr9 : ∀ (z0 : Nat) (z1 : Int32) (w : mg_H) (cells slots : Nat), mg_G E p l e ({ frames := 2, cells := C, slots := S, locals := 58 } : Room) s m args below meth c 4 (mg_oS mg_vV) (r9 z0 z1 w) w sz cells slots 9 [(0, .ref z0), (1, .int z1)] []) (r67 : Nat → Int32 → Int32 → mg_H → Option (Unit × mg_H)) (hr67 : ∀ (z0 : Nat) (z1 : Int32) (z2 : Int32) (w : mg_H) (cells slots : Nat), mg_G E p l e ({ frames := 2, cells := C, slots := S, locals := 58 } : Room) s m args below meth c 4 (mg_oS mg_vV) (r67 z0 z1 z2 w) w sz cells slots 67 [(0, .ref z0), (1, .int z1), (2, .int z2)] []) : ∀ (n : Nat) (x0 : Nat) (x1 : Int32) (x2 : Int32) (x3 : Int32) (w : mg_H) (cells slots : Nat), mg_G E p l e ({ frames := 2, cells := C, slots := S, locals := 58 } : Room) s m args below meth c 4 (mg_oS mg_vV) (fX4_findPairs_b90 r9 r67 n x0 x1 x2 x3 w) w sz cells slots 90 [(0, .ref x0), (1, .int x1), (2, .int x2), (3, .int x3)] [] := by
  intro n
  induction n with
  | zero => intros; exact fun o hf => by rw [fX4_findPairs_b90] at hf; cases hf
  | succ n ih =>
    intro x0 x1 x2 x3 w cells slots
    rw [fX4_findPairs_b90]
    refine mg_aload_n (pc := 90) hC 0 dX4_findPairs_90 rfl ?_
    refine mg_getNN (pc := 91) (ci := 4) (k := 7) hC mi_4 rfl (by decide) mw_452 dX4_findPairs_91 (fun v1 _ => ?_)
    refine mg_iload_n (pc := 94) hC 3 dX4_findPairs_94 rfl ?_
    refine mg_zald (pc := 95) hC dX4_findPairs_95 (fun v2 _ => ?_)
    refine mg_if_ne (pc := 96) hC 111 dX4_findPairs_96 (by decide) (fun _ => ?_) (fun _ => ?_)
    · refine mg_aload_n (pc := 99) hC 0 dX4_findPairs_99 rfl ?_
      refine mg_iload_n (pc := 100) hC 1 dX4_findPairs_100 rfl ?_
      refine mg_iload_n (pc := 101) hC 2 dX4_findPairs_101 rfl ?_
      refine mg_i2l (pc := 102) hC dX4_findPairs_102 ?_
      refine mg_iload_n (pc := 103) hC 3 dX4_findPairs_103 rfl ?_
      refine mg_i2l (pc := 104) hC dX4_findPairs_104 ?_
      refine mg_recv (ci := 4) (fun hb => ?_)
      refine mg_cRI (pc := 105) (fun r hr => mg_VR (rest := []) (av := [.int x1, .long (x2.toInt64), .long (x3.toInt64)]) (ci := 4) hC wdX4_crosses mw_438 dX4_findPairs_105 rfl rfl ⟨Nat.le_of_ble_eq_true rfl, Nat.le_of_ble_eq_true rfl⟩ (Nat.le_of_ble_eq_true rfl) hb (kX4_crosses hr)) (fun v3 _ => ?_)
      refine mg_if_eq (pc := 108) hC 117 dX4_findPairs_108 (by decide) (fun _ => ?_) (fun _ => ?_)
      · exact mg_sub (pc := 117) [0, 1, 2, 3] (L' := [(0, .ref x0), (1, .int x1), (2, .int x2), (3, .int x3)]) rfl (gX4_findPairs_b117 hC _ _ hr9 _ hr67 _ _ _ _ _ _ _)
      · exact mg_sub (pc := 111) [0, 1, 2, 3] (L' := [(0, .ref x0), (1, .int x1), (2, .int x2), (3, .int x3)]) rfl (gX4_findPairs_b111 hC _ _ hr9 _ hr67 _ ih _ _ _ _ _ _ _)
    · exact mg_sub (pc := 111) [0, 1, 2, 3] (L' := [(0, .ref x0), (1, .int x1), (2, .int x2), (3, .int x3)]) rfl (gX4_findPairs_b111 hC _ _ hr9 _ hr67 _ ih _ _ _ _ _ _ _)
def fX4_findPairs_b67 (r9 : Nat → Int32 → mg_H → Option (Unit × mg_H)) : Nat → Nat → Int32 → Int32 → mg_H → Option (Unit × mg_H)
  | 0, _, _, _, _ => none
  | n + 1, x0, x1, x2, w => (fX4_whole x1).bind fun v1 => if 0 ≤ (lg_cmp (x2.toInt64) v1) then (fX4_findPairs_b146 r9 x0 x1 w) else (mg_gN w 4 x0 7 fun v2 => (mg_ldI w 1 v2 x2).bind fun v3 => if v3 = 0 then (fX4_findPairs_b90 r9 (fX4_findPairs_b67 r9 n) mg_N x0 x1 x2 (x2 + (1 : Int32)) w) else (fX4_findPairs_b140 r9 (fX4_findPairs_b67 r9 n) x0 x1 x2 w))
set_option maxHeartbeats 4000000 in
set_option maxRecDepth 100000 in
theorem gX4_findPairs_b67 (hC : mg_Cx E p s m args meth c cX4_findPairs 4 none RX4) (sz : Nat) (r9 : Nat → Int32 → mg_H → Option (Unit × mg_H)) (hr9 : ∀ (z0 : Nat) (z1 : Int32) (w : mg_H) (cells slots : Nat), mg_G E p l e ({ frames := 2, cells := C, slots := S, locals := 58 } : Room) s m args below meth c 4 (mg_oS mg_vV) (r9 z0 z1 w) w sz cells slots 9 [(0, .ref z0), (1, .int z1)] []) : ∀ (n : Nat) (x0 : Nat) (x1 : Int32) (x2 : Int32) (w : mg_H) (cells slots : Nat), mg_G E p l e ({ frames := 2, cells := C, slots := S, locals := 58 } : Room) s m args below meth c 4 (mg_oS mg_vV) (fX4_findPairs_b67 r9 n x0 x1 x2 w) w sz cells slots 67 [(0, .ref x0), (1, .int x1), (2, .int x2)] [] := by
  intro n
  induction n with
  | zero => intros; exact fun o hf => by rw [fX4_findPairs_b67] at hf; cases hf
  | succ n ih =>
    intro x0 x1 x2 w cells slots
    rw [fX4_findPairs_b67]
    refine mg_iload_n (pc := 67) hC 2 dX4_findPairs_67 rfl ?_
    refine mg_i2l (pc := 68) hC dX4_findPairs_68 ?_
    refine mg_iload_n (pc := 69) hC 1 dX4_findPairs_69 rfl ?_
    refine mg_cRL (pc := 70) (fun r hr => mg_S (rest := [.long (x2.toInt64)]) hC wdX4_whole mw_423 mw_422 dX4_findPairs_70 rfl rfl ⟨Nat.le_of_ble_eq_true rfl, Nat.le_of_ble_eq_true rfl⟩ (Nat.le_of_ble_eq_true rfl) (kX4_whole hr)) (fun v1 _ => ?_)
    refine mg_lcmp (pc := 73) hC dX4_findPairs_73 ?_
    refine mg_if_ge (pc := 74) hC 146 dX4_findPairs_74 (by decide) (fun _ => ?_) (fun _ => ?_)
    · exact mg_sub (pc := 146) [0, 1] (L' := [(0, .ref x0), (1, .int x1)]) rfl (gX4_findPairs_b146 hC _ _ hr9 _ _ _ _ _)
    · refine mg_aload_n (pc := 77) hC 0 dX4_findPairs_77 rfl ?_
      refine mg_getNN (pc := 78) (ci := 4) (k := 7) hC mi_4 rfl (by decide) mw_452 dX4_findPairs_78 (fun v2 _ => ?_)
      refine mg_iload_n (pc := 81) hC 2 dX4_findPairs_81 rfl ?_
      refine mg_zald (pc := 82) hC dX4_findPairs_82 (fun v3 _ => ?_)
      refine mg_if_ne (pc := 83) hC 140 dX4_findPairs_83 (by decide) (fun _ => ?_) (fun _ => ?_)
      · refine mg_iload_n (pc := 86) hC 2 dX4_findPairs_86 rfl ?_
        refine mg_iconst (pc := 87) hC (1 : Int32) dX4_findPairs_87 (by decide) ?_
        refine mg_iadd (pc := 88) hC dX4_findPairs_88 ?_
        refine mg_istore_n (pc := 89) hC [(3, .int (x2 + (1 : Int32))), (0, .ref x0), (1, .int x1), (2, .int x2)] dX4_findPairs_89 (by decide) rfl ?_
        exact mg_sub (pc := 90) [1, 2, 3, 0] (L' := [(0, .ref x0), (1, .int x1), (2, .int x2), (3, .int (x2 + (1 : Int32)))]) rfl (gX4_findPairs_b90 hC _ _ hr9 _ ih _ _ _ _ _ _ _ _)
      · exact mg_sub (pc := 140) [0, 1, 2] (L' := [(0, .ref x0), (1, .int x1), (2, .int x2)]) rfl (gX4_findPairs_b140 hC _ _ hr9 _ ih _ _ _ _ _ _)
def fX4_findPairs_b65 (r9 : Nat → Int32 → mg_H → Option (Unit × mg_H)) (x0 : Nat) (x1 : Int32) (w : mg_H) : Option (Unit × mg_H) := fX4_findPairs_b67 r9 mg_N x0 x1 (1 : Int32) w
set_option maxHeartbeats 4000000 in
set_option maxRecDepth 100000 in
theorem gX4_findPairs_b65 (hC : mg_Cx E p s m args meth c cX4_findPairs 4 none RX4) (sz : Nat) (r9 : Nat → Int32 → mg_H → Option (Unit × mg_H)) (hr9 : ∀ (z0 : Nat) (z1 : Int32) (w : mg_H) (cells slots : Nat), mg_G E p l e ({ frames := 2, cells := C, slots := S, locals := 58 } : Room) s m args below meth c 4 (mg_oS mg_vV) (r9 z0 z1 w) w sz cells slots 9 [(0, .ref z0), (1, .int z1)] []) (x0 : Nat) (x1 : Int32) (w : mg_H) (cells slots : Nat) : mg_G E p l e ({ frames := 2, cells := C, slots := S, locals := 58 } : Room) s m args below meth c 4 (mg_oS mg_vV) (fX4_findPairs_b65 r9 x0 x1 w) w sz cells slots 65 [(0, .ref x0), (1, .int x1)] [] := by
  unfold fX4_findPairs_b65
  refine mg_iconst (pc := 65) hC (1 : Int32) dX4_findPairs_65 (by decide) ?_
  refine mg_istore_n (pc := 66) hC [(2, .int (1 : Int32)), (0, .ref x0), (1, .int x1)] dX4_findPairs_66 (by decide) rfl ?_
  exact mg_sub (pc := 67) [1, 2, 0] (L' := [(0, .ref x0), (1, .int x1), (2, .int (1 : Int32))]) rfl (gX4_findPairs_b67 hC _ _ hr9 _ _ _ _ _ _ _)
def fX4_findPairs_b58 (r9 : Nat → Int32 → mg_H → Option (Unit × mg_H)) (r17 : Nat → Int32 → Int32 → mg_H → Option (Unit × mg_H)) (x0 : Nat) (x1 : Int32) (x2 : Int32) (s0 : Int32) (s1 : Int32) (s2 : Nat) (w : mg_H) : Option (Unit × mg_H) := (mg_stZ w s2 s1 s0).bind fun w1 => r17 x0 x1 (x2 + (1 : Int32)) w1
set_option maxHeartbeats 4000000 in
set_option maxRecDepth 100000 in
theorem gX4_findPairs_b58 (hC : mg_Cx E p s m args meth c cX4_findPairs 4 none RX4) (sz : Nat) (r9 : Nat → Int32 → mg_H → Option (Unit × mg_H)) (hr9 : ∀ (z0 : Nat) (z1 : Int32) (w : mg_H) (cells slots : Nat), mg_G E p l e ({ frames := 2, cells := C, slots := S, locals := 58 } : Room) s m args below meth c 4 (mg_oS mg_vV) (r9 z0 z1 w) w sz cells slots 9 [(0, .ref z0), (1, .int z1)] []) (r17 : Nat → Int32 → Int32 → mg_H → Option (Unit × mg_H)) (hr17 : ∀ (z0 : Nat) (z1 : Int32) (z2 : Int32) (w : mg_H) (cells slots : Nat), mg_G E p l e ({ frames := 2, cells := C, slots := S, locals := 58 } : Room) s m args below meth c 4 (mg_oS mg_vV) (r17 z0 z1 z2 w) w sz cells slots 17 [(0, .ref z0), (1, .int z1), (2, .int z2)] []) (x0 : Nat) (x1 : Int32) (x2 : Int32) (s0 : Int32) (s1 : Int32) (s2 : Nat) (w : mg_H) (cells slots : Nat) : mg_G E p l e ({ frames := 2, cells := C, slots := S, locals := 58 } : Room) s m args below meth c 4 (mg_oS mg_vV) (fX4_findPairs_b58 r9 r17 x0 x1 x2 s0 s1 s2 w) w sz cells slots 58 [(0, .ref x0), (1, .int x1), (2, .int x2)] [.int s0, .int s1, .ref s2] := by
  unfold fX4_findPairs_b58
  refine mg_zast (pc := 58) hC dX4_findPairs_58 (fun w1 _ => ?_)
  refine mg_iinc (pc := 59) hC 2 (x2 + (1 : Int32)) [(2, .int (x2 + (1 : Int32))), (0, .ref x0), (1, .int x1)] dX4_findPairs_59 rfl rfl (by decide) rfl ?_
  refine mg_goto (pc := 62) hC 17 dX4_findPairs_62 (by decide) ?_
  exact mg_sub (pc := 17) [1, 2, 0] (L' := [(0, .ref x0), (1, .int x1), (2, .int (x2 + (1 : Int32)))]) rfl (hr17 _ _ _ _ _ _)
def fX4_findPairs_b53 (r9 : Nat → Int32 → mg_H → Option (Unit × mg_H)) (r17 : Nat → Int32 → Int32 → mg_H → Option (Unit × mg_H)) (x0 : Nat) (x1 : Int32) (x2 : Int32) (s0 : Int32) (s1 : Nat) (w : mg_H) : Option (Unit × mg_H) := fX4_findPairs_b58 r9 r17 x0 x1 x2 (1 : Int32) s0 s1 w
set_option maxHeartbeats 4000000 in
set_option maxRecDepth 100000 in
theorem gX4_findPairs_b53 (hC : mg_Cx E p s m args meth c cX4_findPairs 4 none RX4) (sz : Nat) (r9 : Nat → Int32 → mg_H → Option (Unit × mg_H)) (hr9 : ∀ (z0 : Nat) (z1 : Int32) (w : mg_H) (cells slots : Nat), mg_G E p l e ({ frames := 2, cells := C, slots := S, locals := 58 } : Room) s m args below meth c 4 (mg_oS mg_vV) (r9 z0 z1 w) w sz cells slots 9 [(0, .ref z0), (1, .int z1)] []) (r17 : Nat → Int32 → Int32 → mg_H → Option (Unit × mg_H)) (hr17 : ∀ (z0 : Nat) (z1 : Int32) (z2 : Int32) (w : mg_H) (cells slots : Nat), mg_G E p l e ({ frames := 2, cells := C, slots := S, locals := 58 } : Room) s m args below meth c 4 (mg_oS mg_vV) (r17 z0 z1 z2 w) w sz cells slots 17 [(0, .ref z0), (1, .int z1), (2, .int z2)] []) (x0 : Nat) (x1 : Int32) (x2 : Int32) (s0 : Int32) (s1 : Nat) (w : mg_H) (cells slots : Nat) : mg_G E p l e ({ frames := 2, cells := C, slots := S, locals := 58 } : Room) s m args below meth c 4 (mg_oS mg_vV) (fX4_findPairs_b53 r9 r17 x0 x1 x2 s0 s1 w) w sz cells slots 53 [(0, .ref x0), (1, .int x1), (2, .int x2)] [.int s0, .ref s1] := by
  unfold fX4_findPairs_b53
  refine mg_iconst (pc := 53) hC (1 : Int32) dX4_findPairs_53 (by decide) ?_
  refine mg_goto (pc := 54) hC 58 dX4_findPairs_54 (by decide) ?_
  exact mg_sub (pc := 58) [0, 1, 2] (L' := [(0, .ref x0), (1, .int x1), (2, .int x2)]) rfl (gX4_findPairs_b58 hC _ _ hr9 _ hr17 _ _ _ _ _ _ _ _ _)
def fX4_findPairs_b17 (r9 : Nat → Int32 → mg_H → Option (Unit × mg_H)) : Nat → Nat → Int32 → Int32 → mg_H → Option (Unit × mg_H)
  | 0, _, _, _, _ => none
  | n + 1, x0, x1, x2, w => if (256 : Int32) ≤ x2 then (fX4_findPairs_b65 r9 x0 x1 w) else (mg_gN w 4 x0 7 fun v1 => (fX4_whole x1).bind fun v2 => (fX4_in (x2.toInt64) (1 : Int64) (v2 - (1 : Int64))).bind fun v3 => if v3 = 0 then (fX4_findPairs_b53 r9 (fX4_findPairs_b17 r9 n) x0 x1 x2 x2 v1 w) else ((fX4_isOfLength (x2.toInt64) x1).bind fun v4 => if v4 = 0 then (fX4_findPairs_b53 r9 (fX4_findPairs_b17 r9 n) x0 x1 x2 x2 v1 w) else (fX4_findPairs_b58 r9 (fX4_findPairs_b17 r9 n) x0 x1 x2 (0 : Int32) x2 v1 w)))
set_option maxHeartbeats 4000000 in
set_option maxRecDepth 100000 in
theorem gX4_findPairs_b17 (hC : mg_Cx E p s m args meth c cX4_findPairs 4 none RX4) (sz : Nat) (r9 : Nat → Int32 → mg_H → Option (Unit × mg_H)) (hr9 : ∀ (z0 : Nat) (z1 : Int32) (w : mg_H) (cells slots : Nat), mg_G E p l e ({ frames := 2, cells := C, slots := S, locals := 58 } : Room) s m args below meth c 4 (mg_oS mg_vV) (r9 z0 z1 w) w sz cells slots 9 [(0, .ref z0), (1, .int z1)] []) : ∀ (n : Nat) (x0 : Nat) (x1 : Int32) (x2 : Int32) (w : mg_H) (cells slots : Nat), mg_G E p l e ({ frames := 2, cells := C, slots := S, locals := 58 } : Room) s m args below meth c 4 (mg_oS mg_vV) (fX4_findPairs_b17 r9 n x0 x1 x2 w) w sz cells slots 17 [(0, .ref x0), (1, .int x1), (2, .int x2)] [] := by
  intro n
  induction n with
  | zero => intros; exact fun o hf => by rw [fX4_findPairs_b17] at hf; cases hf
  | succ n ih =>
    intro x0 x1 x2 w cells slots
    rw [fX4_findPairs_b17]
    refine mg_iload_n (pc := 17) hC 2 dX4_findPairs_17 rfl ?_
    refine mg_sipush (pc := 18) hC (256 : Int32) dX4_findPairs_18 (by decide) ?_
    refine mg_icmp_ge (pc := 21) hC 65 dX4_findPairs_21 (by decide) (fun _ => ?_) (fun _ => ?_)
    · exact mg_sub (pc := 65) [0, 1] (L' := [(0, .ref x0), (1, .int x1)]) rfl (gX4_findPairs_b65 hC _ _ hr9 _ _ _ _ _)
    · refine mg_aload_n (pc := 24) hC 0 dX4_findPairs_24 rfl ?_
      refine mg_getNN (pc := 25) (ci := 4) (k := 7) hC mi_4 rfl (by decide) mw_452 dX4_findPairs_25 (fun v1 _ => ?_)
      refine mg_iload_n (pc := 28) hC 2 dX4_findPairs_28 rfl ?_
      refine mg_iload_n (pc := 29) hC 2 dX4_findPairs_29 rfl ?_
      refine mg_i2l (pc := 30) hC dX4_findPairs_30 ?_
      refine mg_lconst (pc := 31) hC (1 : Int64) dX4_findPairs_31 (by decide) ?_
      refine mg_iload_n (pc := 32) hC 1 dX4_findPairs_32 rfl ?_
      refine mg_cRL (pc := 33) (fun r hr => mg_S (rest := [.long (1 : Int64), .long (x2.toInt64), .int x2, .ref v1]) hC wdX4_whole mw_423 mw_422 dX4_findPairs_33 rfl rfl ⟨Nat.le_of_ble_eq_true rfl, Nat.le_of_ble_eq_true rfl⟩ (Nat.le_of_ble_eq_true rfl) (kX4_whole hr)) (fun v2 _ => ?_)
      refine mg_lconst (pc := 36) hC (1 : Int64) dX4_findPairs_36 (by decide) ?_
      refine mg_lsub (pc := 37) hC dX4_findPairs_37 ?_
      refine mg_cRI (pc := 38) (fun r hr => mg_S (rest := [.int x2, .ref v1]) hC wdX4_in mw_426 mw_425 dX4_findPairs_38 rfl rfl ⟨Nat.le_of_ble_eq_true rfl, Nat.le_of_ble_eq_true rfl⟩ (Nat.le_of_ble_eq_true rfl) (kX4_in hr)) (fun v3 _ => ?_)
      refine mg_if_eq (pc := 41) hC 53 dX4_findPairs_41 (by decide) (fun _ => ?_) (fun _ => ?_)
      · exact mg_sub (pc := 53) [0, 1, 2] (L' := [(0, .ref x0), (1, .int x1), (2, .int x2)]) rfl (gX4_findPairs_b53 hC _ _ hr9 _ ih _ _ _ _ _ _ _ _)
      · refine mg_iload_n (pc := 44) hC 2 dX4_findPairs_44 rfl ?_
        refine mg_i2l (pc := 45) hC dX4_findPairs_45 ?_
        refine mg_iload_n (pc := 46) hC 1 dX4_findPairs_46 rfl ?_
        refine mg_cRI (pc := 47) (fun r hr => mg_S (rest := [.int x2, .ref v1]) hC wdX4_isOfLength mw_429 mw_428 dX4_findPairs_47 rfl rfl ⟨Nat.le_of_ble_eq_true rfl, Nat.le_of_ble_eq_true rfl⟩ (Nat.le_of_ble_eq_true rfl) (kX4_isOfLength hr)) (fun v4 _ => ?_)
        refine mg_if_ne (pc := 50) hC 57 dX4_findPairs_50 (by decide) (fun _ => ?_) (fun _ => ?_)
        · exact mg_sub (pc := 53) [0, 1, 2] (L' := [(0, .ref x0), (1, .int x1), (2, .int x2)]) rfl (gX4_findPairs_b53 hC _ _ hr9 _ ih _ _ _ _ _ _ _ _)
        · refine mg_iconst (pc := 57) hC (0 : Int32) dX4_findPairs_57 (by decide) ?_
          exact mg_sub (pc := 58) [0, 1, 2] (L' := [(0, .ref x0), (1, .int x1), (2, .int x2)]) rfl (gX4_findPairs_b58 hC _ _ hr9 _ ih _ _ _ _ _ _ _ _ _)
def fX4_findPairs_b9 : Nat → Nat → Int32 → mg_H → Option (Unit × mg_H)
  | 0, _, _, _ => none
  | n + 1, x0, x1, w => if (8 : Int32) < x1 then (some ((), w)) else (fX4_findPairs_b17 (fX4_findPairs_b9 n) mg_N x0 x1 (0 : Int32) w)
set_option maxHeartbeats 4000000 in
set_option maxRecDepth 100000 in
theorem gX4_findPairs_b9 (hC : mg_Cx E p s m args meth c cX4_findPairs 4 none RX4) (sz : Nat) : ∀ (n : Nat) (x0 : Nat) (x1 : Int32) (w : mg_H) (cells slots : Nat), mg_G E p l e ({ frames := 2, cells := C, slots := S, locals := 58 } : Room) s m args below meth c 4 (mg_oS mg_vV) (fX4_findPairs_b9 n x0 x1 w) w sz cells slots 9 [(0, .ref x0), (1, .int x1)] [] := by
  intro n
  induction n with
  | zero => intros; exact fun o hf => by rw [fX4_findPairs_b9] at hf; cases hf
  | succ n ih =>
    intro x0 x1 w cells slots
    rw [fX4_findPairs_b9]
    refine mg_iload_n (pc := 9) hC 1 dX4_findPairs_9 rfl ?_
    refine mg_bipush (pc := 10) hC (8 : Int32) dX4_findPairs_10 (by decide) ?_
    refine mg_icmp_gt (pc := 12) hC 152 dX4_findPairs_12 (by decide) (fun _ => ?_) (fun _ => ?_)
    · exact mg_vret (pc := 152) hC rfl dX4_findPairs_152
    · refine mg_iconst (pc := 15) hC (0 : Int32) dX4_findPairs_15 (by decide) ?_
      refine mg_istore_n (pc := 16) hC [(2, .int (0 : Int32)), (0, .ref x0), (1, .int x1)] dX4_findPairs_16 (by decide) rfl ?_
      exact mg_sub (pc := 17) [1, 2, 0] (L' := [(0, .ref x0), (1, .int x1), (2, .int (0 : Int32))]) rfl (gX4_findPairs_b17 hC _ _ ih _ _ _ _ _ _ _)
def fX4_findPairs (x0 : Nat) (w : mg_H) : Option (Unit × mg_H) := mg_rc w 4 x0 (mg_bS (fX4_pairs0 x0 (1 : Int32) (0 : Int64) (0 : Int64) w) fun _ w2 => fX4_findPairs_b9 mg_N x0 (2 : Int32) w2)
set_option maxHeartbeats 4000000 in
set_option maxRecDepth 100000 in
theorem kX4_findPairs {E : mg_P} {l : Launch} {x0 : Nat} {w : mg_H} {sz : Nat} {o : Unit × mg_H} (hf : fX4_findPairs x0 w = some o) : mg_C E l yX4_findPairs cX4_findPairs 4 none 2 58 [.ref x0] w sz ((mg_oS mg_vV) o) := by
  refine mg_meth (out := (mg_oS mg_vV)) (by decide) (Nat.le_of_ble_eq_true rfl) hf ?_
  intro p e C S s m below meth c hC hin
  have hC : mg_Cx E p s m _ meth c cX4_findPairs 4 none RX4 := hC
  unfold fX4_findPairs
  refine mg_sub (pc := 0) [0] (L' := [(0, .ref x0)]) rfl ?_
  refine mg_aload_n (pc := 0) hC 0 dX4_findPairs_0 rfl ?_
  refine mg_iconst (pc := 1) hC (1 : Int32) dX4_findPairs_1 (by decide) ?_
  refine mg_lconst (pc := 2) hC (0 : Int64) dX4_findPairs_2 (by decide) ?_
  refine mg_lconst (pc := 3) hC (0 : Int64) dX4_findPairs_3 (by decide) ?_
  refine mg_recv (ci := 4) (fun hb => ?_)
  refine mg_cSV (pc := 4) (fun r hr => mg_VR (rest := []) (av := [.int (1 : Int32), .long (0 : Int64), .long (0 : Int64)]) (ci := 4) hC wdX4_pairs0 mw_418 dX4_findPairs_4 rfl rfl ⟨Nat.le_of_ble_eq_true rfl, Nat.le_of_ble_eq_true rfl⟩ (Nat.le_of_ble_eq_true rfl) hb (kX4_pairs0 hr)) (fun _ w2 _ => ?_)
  refine mg_iconst (pc := 7) hC (2 : Int32) dX4_findPairs_7 (by decide) ?_
  refine mg_istore_n (pc := 8) hC [(1, .int (2 : Int32)), (0, .ref x0)] dX4_findPairs_8 (by decide) rfl ?_
  exact mg_sub (pc := 9) [1, 0] (L' := [(0, .ref x0), (1, .int (2 : Int32))]) rfl (gX4_findPairs_b9 hC _  _ _ _ _ _ _)
theorem wdX4_findPairs : mg_WdV 4 yX4_findPairs cX4_findPairs 4 none 0 := ⟨⟨mw_417, mw_2, by decide, by decide, by decide +kernel⟩, _, rfl, mw_416, mw_p18⟩
def fX4_init_b100 (x0 : Nat) (w : mg_H) (sz : Nat) : Option (Unit × mg_H × Nat × Nat) := mg_rc w 4 x0 (mg_bS (fX4_findPairs x0 w) fun _ w2 => some ((), w2, 0, 0))
set_option maxHeartbeats 4000000 in
set_option maxRecDepth 100000 in
theorem gX4_init_b100 (hC : mg_Cx E p s m args meth c cX4_init 2 none RX4) (hin : meth.name = "<init>") (x0 : Nat) (w : mg_H) (sz : Nat) (cells slots : Nat) : mg_G E p l e ({ frames := 3, cells := C, slots := S, locals := 81 } : Room) s m args below meth c 2 (mg_oA mg_vV) (fX4_init_b100 x0 w sz) w sz cells slots 100 [(0, .ref x0)] [] := by
  unfold fX4_init_b100
  refine mg_aload_n (pc := 100) hC 0 dX4_init_100 rfl ?_
  refine mg_recv (ci := 4) (fun hb => ?_)
  refine mg_cSV (pc := 101) (fun r hr => mg_VR (rest := []) (av := []) (ci := 4) hC wdX4_findPairs mw_414 dX4_init_101 rfl rfl ⟨Nat.le_of_ble_eq_true rfl, Nat.le_of_ble_eq_true rfl⟩ (Nat.le_of_ble_eq_true rfl) hb (kX4_findPairs hr)) (fun _ w2 _ => ?_)
  exact mg_vret (pc := 104) hC rfl dX4_init_104
def fX4_init_b81 : Nat → Nat → Int32 → mg_H → Nat → Option (Unit × mg_H × Nat × Nat)
  | 0, _, _, _, _ => none
  | n + 1, x0, x1, w, sz => if (4 : Int32) ≤ x1 then (fX4_init_b100 x0 w sz) else (mg_gN w 4 x0 8 fun v1 => (mg_stI w v1 x1 (-4 : Int32)).bind fun w2 => fX4_init_b81 n x0 (x1 + (1 : Int32)) w2 sz)
set_option maxHeartbeats 4000000 in
set_option maxRecDepth 100000 in
theorem gX4_init_b81 (hC : mg_Cx E p s m args meth c cX4_init 2 none RX4) (hin : meth.name = "<init>") : ∀ (n : Nat) (x0 : Nat) (x1 : Int32) (w : mg_H) (sz : Nat) (cells slots : Nat), mg_G E p l e ({ frames := 3, cells := C, slots := S, locals := 81 } : Room) s m args below meth c 2 (mg_oA mg_vV) (fX4_init_b81 n x0 x1 w sz) w sz cells slots 81 [(0, .ref x0), (1, .int x1)] [] := by
  intro n
  induction n with
  | zero => intros; exact fun o hf => by rw [fX4_init_b81] at hf; cases hf
  | succ n ih =>
    intro x0 x1 w sz cells slots
    rw [fX4_init_b81]
    refine mg_iload_n (pc := 81) hC 1 dX4_init_81 rfl ?_
    refine mg_iconst (pc := 82) hC (4 : Int32) dX4_init_82 (by decide) ?_
    refine mg_icmp_ge (pc := 83) hC 100 dX4_init_83 (by decide) (fun _ => ?_) (fun _ => ?_)
    · exact mg_sub (pc := 100) [0] (L' := [(0, .ref x0)]) rfl (gX4_init_b100 hC hin   _ _ _ _ _)
    · refine mg_aload_n (pc := 86) hC 0 dX4_init_86 rfl ?_
      refine mg_getNN (pc := 87) (ci := 4) (k := 8) hC mi_4 rfl (by decide) mw_453 dX4_init_87 (fun v1 _ => ?_)
      refine mg_iload_n (pc := 90) hC 1 dX4_init_90 rfl ?_
      refine mg_bipush (pc := 91) hC (-4 : Int32) dX4_init_91 (by decide) ?_
      refine mg_iast (pc := 93) hC dX4_init_93 (fun w2 _ => ?_)
      refine mg_iinc (pc := 94) hC 1 (x1 + (1 : Int32)) [(1, .int (x1 + (1 : Int32))), (0, .ref x0)] dX4_init_94 rfl rfl (by decide) rfl ?_
      refine mg_goto (pc := 97) hC 81 dX4_init_97 (by decide) ?_
      exact mg_sub (pc := 81) [1, 0] (L' := [(0, .ref x0), (1, .int (x1 + (1 : Int32)))]) rfl (ih _ _ _ _ _ _)
def fX4_init (x0 : Nat) (w : mg_H) (sz : Nat) : Option (Unit × mg_H × Nat × Nat) := mg_naL w sz (16 : Int32) fun w1 => (mg_pQ w1 4 x0 1 (some sz)).bind fun w2 => mg_naL w2 (sz + 1) (16 : Int32) fun w3 => (mg_pQ w3 4 x0 2 (some (sz + 1))).bind fun w4 => mg_naI w4 (sz + 1 + 1) 0 (240 : Int32) fun w5 => (mg_pQ w5 4 x0 4 (some (sz + 1 + 1))).bind fun w6 => mg_naL w6 (sz + 1 + 1 + 1) (240 : Int32) fun w7 => (mg_pQ w7 4 x0 5 (some (sz + 1 + 1 + 1))).bind fun w8 => mg_naL w8 (sz + 1 + 1 + 1 + 1) (240 : Int32) fun w9 => (mg_pQ w9 4 x0 6 (some (sz + 1 + 1 + 1 + 1))).bind fun w10 => mg_naI w10 (sz + 1 + 1 + 1 + 1 + 1) 1 (256 : Int32) fun w11 => (mg_pQ w11 4 x0 7 (some (sz + 1 + 1 + 1 + 1 + 1))).bind fun w12 => mg_naI w12 (sz + 1 + 1 + 1 + 1 + 1 + 1) 0 (4 : Int32) fun w13 => (mg_pQ w13 4 x0 8 (some (sz + 1 + 1 + 1 + 1 + 1 + 1))).bind fun w14 => mg_naI w14 (sz + 1 + 1 + 1 + 1 + 1 + 1 + 1) 0 (4 : Int32) fun w15 => (mg_pQ w15 4 x0 9 (some (sz + 1 + 1 + 1 + 1 + 1 + 1 + 1))).bind fun w16 => mg_naL w16 (sz + 1 + 1 + 1 + 1 + 1 + 1 + 1 + 1) (240 : Int32) fun w17 => (mg_pQ w17 4 x0 10 (some (sz + 1 + 1 + 1 + 1 + 1 + 1 + 1 + 1))).bind fun w18 => fX4_init_b81 mg_N x0 (0 : Int32) w18 (sz + 1 + 1 + 1 + 1 + 1 + 1 + 1 + 1 + 1)
set_option maxHeartbeats 4000000 in
set_option maxRecDepth 100000 in
theorem kX4_init {E : mg_P} {l : Launch} {x0 : Nat} {w : mg_H} {sz : Nat} {o : Unit × mg_H × Nat × Nat} (hf : fX4_init x0 w sz = some o) : mg_C E l yX4_init cX4_init 2 none 3 81 [.ref x0] w sz ((mg_oA mg_vV) o) := by
  refine mg_meth (out := (mg_oA mg_vV)) (by decide) (Nat.le_of_ble_eq_true rfl) hf ?_
  intro p e C S s m below meth c hC hin
  have hC : mg_Cx E p s m _ meth c cX4_init 2 none RX4 := hC
  have hin : meth.name = "<init>" := hin
  unfold fX4_init
  refine mg_sub (pc := 0) [0] (L' := [(0, .ref x0)]) rfl ?_
  refine mg_aload_n (pc := 0) hC 0 dX4_init_0 rfl ?_
  refine mg_objInit (pc := 1) hC mw_413 mw_13 mw_14 (Nat.le_of_ble_eq_true rfl) (Nat.le_of_ble_eq_true rfl) dX4_init_1 ?_
  refine mg_aload_n (pc := 4) hC 0 dX4_init_4 rfl ?_
  refine mg_bipush (pc := 5) hC (16 : Int32) dX4_init_5 (by decide) ?_
  refine mg_newaL (pc := 7) hC mw_374 dX4_init_7 ?_
  refine mg_putQ (pc := 9) (ci := 4) (k := 1) (v := (some sz)) hC mi_4 rfl (by decide) tyX4 tyX4_ok nmX4 mw_446 dX4_init_9 (Or.inr ⟨rfl, hin, rfl⟩) mg_rfA mg_ftA (fun w2 _ => ?_)
  refine mg_aload_n (pc := 12) hC 0 dX4_init_12 rfl ?_
  refine mg_bipush (pc := 13) hC (16 : Int32) dX4_init_13 (by decide) ?_
  refine mg_newaL (pc := 15) hC mw_374 dX4_init_15 ?_
  refine mg_putQ (pc := 17) (ci := 4) (k := 2) (v := (some (sz + 1))) hC mi_4 rfl (by decide) tyX4 tyX4_ok nmX4 mw_447 dX4_init_17 (Or.inr ⟨rfl, hin, rfl⟩) mg_rfA mg_ftA (fun w4 _ => ?_)
  refine mg_aload_n (pc := 20) hC 0 dX4_init_20 rfl ?_
  refine mg_sipush (pc := 21) hC (240 : Int32) dX4_init_21 (by decide) ?_
  refine mg_newaI (pc := 24) hC mw_35 dX4_init_24 ?_
  refine mg_putQ (pc := 26) (ci := 4) (k := 4) (v := (some (sz + 1 + 1))) hC mi_4 rfl (by decide) tyX4 tyX4_ok nmX4 mw_449 dX4_init_26 (Or.inr ⟨rfl, hin, rfl⟩) mg_rfA mg_ftA (fun w6 _ => ?_)
  refine mg_aload_n (pc := 29) hC 0 dX4_init_29 rfl ?_
  refine mg_sipush (pc := 30) hC (240 : Int32) dX4_init_30 (by decide) ?_
  refine mg_newaL (pc := 33) hC mw_374 dX4_init_33 ?_
  refine mg_putQ (pc := 35) (ci := 4) (k := 5) (v := (some (sz + 1 + 1 + 1))) hC mi_4 rfl (by decide) tyX4 tyX4_ok nmX4 mw_450 dX4_init_35 (Or.inr ⟨rfl, hin, rfl⟩) mg_rfA mg_ftA (fun w8 _ => ?_)
  refine mg_aload_n (pc := 38) hC 0 dX4_init_38 rfl ?_
  refine mg_sipush (pc := 39) hC (240 : Int32) dX4_init_39 (by decide) ?_
  refine mg_newaL (pc := 42) hC mw_374 dX4_init_42 ?_
  refine mg_putQ (pc := 44) (ci := 4) (k := 6) (v := (some (sz + 1 + 1 + 1 + 1))) hC mi_4 rfl (by decide) tyX4 tyX4_ok nmX4 mw_451 dX4_init_44 (Or.inr ⟨rfl, hin, rfl⟩) mg_rfA mg_ftA (fun w10 _ => ?_)
  refine mg_aload_n (pc := 47) hC 0 dX4_init_47 rfl ?_
  refine mg_sipush (pc := 48) hC (256 : Int32) dX4_init_48 (by decide) ?_
  refine mg_newaZ (pc := 51) hC mw_237 dX4_init_51 ?_
  refine mg_putQ (pc := 53) (ci := 4) (k := 7) (v := (some (sz + 1 + 1 + 1 + 1 + 1))) hC mi_4 rfl (by decide) tyX4 tyX4_ok nmX4 mw_452 dX4_init_53 (Or.inr ⟨rfl, hin, rfl⟩) mg_rfA mg_ftA (fun w12 _ => ?_)
  refine mg_aload_n (pc := 56) hC 0 dX4_init_56 rfl ?_
  refine mg_iconst (pc := 57) hC (4 : Int32) dX4_init_57 (by decide) ?_
  refine mg_newaI (pc := 58) hC mw_35 dX4_init_58 ?_
  refine mg_putQ (pc := 60) (ci := 4) (k := 8) (v := (some (sz + 1 + 1 + 1 + 1 + 1 + 1))) hC mi_4 rfl (by decide) tyX4 tyX4_ok nmX4 mw_453 dX4_init_60 (Or.inr ⟨rfl, hin, rfl⟩) mg_rfA mg_ftA (fun w14 _ => ?_)
  refine mg_aload_n (pc := 63) hC 0 dX4_init_63 rfl ?_
  refine mg_iconst (pc := 64) hC (4 : Int32) dX4_init_64 (by decide) ?_
  refine mg_newaI (pc := 65) hC mw_35 dX4_init_65 ?_
  refine mg_putQ (pc := 67) (ci := 4) (k := 9) (v := (some (sz + 1 + 1 + 1 + 1 + 1 + 1 + 1))) hC mi_4 rfl (by decide) tyX4 tyX4_ok nmX4 mw_454 dX4_init_67 (Or.inr ⟨rfl, hin, rfl⟩) mg_rfA mg_ftA (fun w16 _ => ?_)
  refine mg_aload_n (pc := 70) hC 0 dX4_init_70 rfl ?_
  refine mg_sipush (pc := 71) hC (240 : Int32) dX4_init_71 (by decide) ?_
  refine mg_newaL (pc := 74) hC mw_374 dX4_init_74 ?_
  refine mg_putQ (pc := 76) (ci := 4) (k := 10) (v := (some (sz + 1 + 1 + 1 + 1 + 1 + 1 + 1 + 1))) hC mi_4 rfl (by decide) tyX4 tyX4_ok nmX4 mw_455 dX4_init_76 (Or.inr ⟨rfl, hin, rfl⟩) mg_rfA mg_ftA (fun w18 _ => ?_)
  refine mg_iconst (pc := 79) hC (0 : Int32) dX4_init_79 (by decide) ?_
  refine mg_istore_n (pc := 80) hC [(1, .int (0 : Int32)), (0, .ref x0)] dX4_init_80 (by decide) rfl ?_
  exact mg_sub (pc := 81) [1, 0] (L' := [(0, .ref x0), (1, .int (0 : Int32))]) rfl (gX4_init_b81 hC hin   _ _ _ _ _ _ _)
theorem wdX4_init : mg_Wd yX4_init cX4_init 2 none 0 := ⟨mw_412, mw_2, by decide, by decide, by decide +kernel⟩
def fX4_isAngle (x0 : Nat) (x1 : Int32) (w : mg_H) : Option (Int32) := (mg_gI w 4 x0 0).bind fun v1 => (fX4_in (x1.toInt64) (0 : Int64) ((v1 - (1 : Int32)).toInt64)).bind fun v2 => if v2 &&& 1 = v2 then some v2 else none
set_option maxHeartbeats 4000000 in
set_option maxRecDepth 100000 in
theorem kX4_isAngle {E : mg_P} {l : Launch} {x0 : Nat} {x1 : Int32} {w : mg_H} {sz : Nat} {o : Int32} (hf : fX4_isAngle x0 x1 w = some o) : mg_C E l yX4_isAngle cX4_isAngle 2 (some .boolean) 1 25 [.ref x0, .int x1] w sz ((mg_oR mg_vI w) o) := by
  refine mg_meth (out := (mg_oR mg_vI w)) (by decide) (Nat.le_of_ble_eq_true rfl) hf ?_
  intro p e C S s m below meth c hC hin
  have hC : mg_Cx E p s m _ meth c cX4_isAngle 2 (some .boolean) RX4 := hC
  unfold fX4_isAngle
  refine mg_sub (pc := 0) [0, 1] (L' := [(0, .ref x0), (1, .int x1)]) rfl ?_
  refine mg_iload_n (pc := 0) hC 1 dX4_isAngle_0 rfl ?_
  refine mg_i2l (pc := 1) hC dX4_isAngle_1 ?_
  refine mg_lconst (pc := 2) hC (0 : Int64) dX4_isAngle_2 (by decide) ?_
  refine mg_aload_n (pc := 3) hC 0 dX4_isAngle_3 rfl ?_
  refine mg_getI (pc := 4) (ci := 4) (k := 0) hC mi_4 rfl (by decide) mw_445 dX4_isAngle_4 (fun v1 _ => ?_)
  refine mg_iconst (pc := 7) hC (1 : Int32) dX4_isAngle_7 (by decide) ?_
  refine mg_isub (pc := 8) hC dX4_isAngle_8 ?_
  refine mg_i2l (pc := 9) hC dX4_isAngle_9 ?_
  refine mg_cRI (pc := 10) (fun r hr => mg_S (rest := []) hC wdX4_in mw_426 mw_425 dX4_isAngle_10 rfl rfl ⟨Nat.le_of_ble_eq_true rfl, Nat.le_of_ble_eq_true rfl⟩ (Nat.le_of_ble_eq_true rfl) (kX4_in hr)) (fun v2 _ => ?_)
  exact mg_zret (pc := 13) hC rfl dX4_isAngle_13
theorem wdX4_isAngle : mg_WdV 4 yX4_isAngle cX4_isAngle 2 (some .boolean) 1 := ⟨⟨mw_499, mw_2, by decide, by decide, by decide +kernel⟩, _, rfl, mw_498, mw_p22⟩
def fX4_comes_b43 (x0 : Nat) (x1 : Int64) (x3 : Int64) (x5 : Int64) (w : mg_H) : Option (Int32 × mg_H) := mg_gN w 4 x0 1 fun v1 => (mg_gI w 4 x0 0).bind fun v2 => if x5 = 0 then none else ((mg_stL w v1 v2 (x1 / x5)).bind fun w3 => mg_gN w3 4 x0 2 fun v4 => (mg_gI w3 4 x0 0).bind fun v5 => if x5 = 0 then none else ((mg_stL w3 v4 v5 (x3 / x5)).bind fun w6 => (mg_gI w6 4 x0 0).bind fun v7 => (mg_pI w6 4 x0 0 (v7 + (1 : Int32))).bind fun w8 => (mg_gI w8 4 x0 0).bind fun v9 => some ((v9 - (1 : Int32)), w8)))
set_option maxHeartbeats 4000000 in
set_option maxRecDepth 100000 in
theorem gX4_comes_b43 (hC : mg_Cx E p s m args meth c cX4_comes 11 (some .int) RX4) (sz : Nat) (x0 : Nat) (x1 : Int64) (x3 : Int64) (x5 : Int64) (w : mg_H) (cells slots : Nat) : mg_G E p l e ({ frames := 0, cells := C, slots := S, locals := 0 } : Room) s m args below meth c 11 (mg_oS mg_vI) (fX4_comes_b43 x0 x1 x3 x5 w) w sz cells slots 43 [(0, .ref x0), (1, .long x1), (3, .long x3), (5, .long x5)] [] := by
  unfold fX4_comes_b43
  refine mg_aload_n (pc := 43) hC 0 dX4_comes_43 rfl ?_
  refine mg_getNN (pc := 44) (ci := 4) (k := 1) hC mi_4 rfl (by decide) mw_446 dX4_comes_44 (fun v1 _ => ?_)
  refine mg_aload_n (pc := 47) hC 0 dX4_comes_47 rfl ?_
  refine mg_getI (pc := 48) (ci := 4) (k := 0) hC mi_4 rfl (by decide) mw_445 dX4_comes_48 (fun v2 _ => ?_)
  refine mg_lload_n (pc := 51) hC 1 dX4_comes_51 rfl ?_
  refine mg_lload (pc := 52) hC 3 dX4_comes_52 rfl ?_
  refine mg_ldiv (pc := 54) hC dX4_comes_54 ?_
  refine mg_last (pc := 55) hC dX4_comes_55 (fun w3 _ => ?_)
  refine mg_aload_n (pc := 56) hC 0 dX4_comes_56 rfl ?_
  refine mg_getNN (pc := 57) (ci := 4) (k := 2) hC mi_4 rfl (by decide) mw_447 dX4_comes_57 (fun v4 _ => ?_)
  refine mg_aload_n (pc := 60) hC 0 dX4_comes_60 rfl ?_
  refine mg_getI (pc := 61) (ci := 4) (k := 0) hC mi_4 rfl (by decide) mw_445 dX4_comes_61 (fun v5 _ => ?_)
  refine mg_lload_n (pc := 64) hC 2 dX4_comes_64 rfl ?_
  refine mg_lload (pc := 65) hC 3 dX4_comes_65 rfl ?_
  refine mg_ldiv (pc := 67) hC dX4_comes_67 ?_
  refine mg_last (pc := 68) hC dX4_comes_68 (fun w6 _ => ?_)
  refine mg_aload_n (pc := 69) hC 0 dX4_comes_69 rfl ?_
  refine mg_dup (pc := 70) hC dX4_comes_70 rfl ?_
  refine mg_getI (pc := 71) (ci := 4) (k := 0) hC mi_4 rfl (by decide) mw_445 dX4_comes_71 (fun v7 _ => ?_)
  refine mg_iconst (pc := 74) hC (1 : Int32) dX4_comes_74 (by decide) ?_
  refine mg_iadd (pc := 75) hC dX4_comes_75 ?_
  refine mg_putI (pc := 76) (ci := 4) (k := 0) hC mi_4 rfl (by decide) tyX4 tyX4_ok nmX4 mw_445 dX4_comes_76 (Or.inl rfl) rfl (fun w8 _ => ?_)
  refine mg_aload_n (pc := 79) hC 0 dX4_comes_79 rfl ?_
  refine mg_getI (pc := 80) (ci := 4) (k := 0) hC mi_4 rfl (by decide) mw_445 dX4_comes_80 (fun v9 _ => ?_)
  refine mg_iconst (pc := 83) hC (1 : Int32) dX4_comes_83 (by decide) ?_
  refine mg_isub (pc := 84) hC dX4_comes_84 ?_
  exact mg_iret (pc := 85) hC rfl dX4_comes_85
def fX4_comes_b18 : Nat → Nat → Int64 → Int64 → Int64 → Int64 → mg_H → Option (Int32 × mg_H)
  | 0, _, _, _, _, _, _ => none
  | n + 1, x0, x1, x3, x5, x7, w => if (lg_cmp x7 (0 : Int64)) = 0 then (fX4_comes_b43 x0 x1 x3 x5 w) else (if x7 = 0 then none else (fX4_comes_b18 n x0 x1 x3 x7 (x5 - x5 / x7 * x7) w))
set_option maxHeartbeats 4000000 in
set_option maxRecDepth 100000 in
theorem gX4_comes_b18 (hC : mg_Cx E p s m args meth c cX4_comes 11 (some .int) RX4) (sz : Nat) : ∀ (n : Nat) (x0 : Nat) (x1 : Int64) (x3 : Int64) (x5 : Int64) (x7 : Int64) (w : mg_H) (cells slots : Nat), mg_G E p l e ({ frames := 0, cells := C, slots := S, locals := 0 } : Room) s m args below meth c 11 (mg_oS mg_vI) (fX4_comes_b18 n x0 x1 x3 x5 x7 w) w sz cells slots 18 [(0, .ref x0), (1, .long x1), (3, .long x3), (5, .long x5), (7, .long x7)] [] := by
  intro n
  induction n with
  | zero => intros; exact fun o hf => by rw [fX4_comes_b18] at hf; cases hf
  | succ n ih =>
    intro x0 x1 x3 x5 x7 w cells slots
    rw [fX4_comes_b18]
    refine mg_lload (pc := 18) hC 4 dX4_comes_18 rfl ?_
    refine mg_lconst (pc := 20) hC (0 : Int64) dX4_comes_20 (by decide) ?_
    refine mg_lcmp (pc := 21) hC dX4_comes_21 ?_
    refine mg_if_eq (pc := 22) hC 43 dX4_comes_22 (by decide) (fun _ => ?_) (fun _ => ?_)
    · exact mg_sub (pc := 43) [0, 1, 2, 3] (L' := [(0, .ref x0), (1, .long x1), (3, .long x3), (5, .long x5)]) rfl (gX4_comes_b43 hC _  _ _ _ _ _ _ _)
    · refine mg_lload (pc := 25) hC 3 dX4_comes_25 rfl ?_
      refine mg_lload (pc := 27) hC 4 dX4_comes_27 rfl ?_
      refine mg_lrem (pc := 29) hC dX4_comes_29 ?_
      refine mg_lstore (pc := 30) hC [(9, .long (x5 - x5 / x7 * x7)), (0, .ref x0), (1, .long x1), (3, .long x3), (5, .long x5), (7, .long x7)] dX4_comes_30 (by decide) rfl ?_
      refine mg_lload (pc := 32) hC 5 dX4_comes_32 rfl ?_
      refine mg_lstore (pc := 34) hC [(5, .long x7), (9, .long (x5 - x5 / x7 * x7)), (0, .ref x0), (1, .long x1), (3, .long x3), (7, .long x7)] dX4_comes_34 (by decide) rfl ?_
      refine mg_lload (pc := 36) hC 1 dX4_comes_36 rfl ?_
      refine mg_lstore (pc := 38) hC [(7, .long (x5 - x5 / x7 * x7)), (5, .long x7), (9, .long (x5 - x5 / x7 * x7)), (0, .ref x0), (1, .long x1), (3, .long x3)] dX4_comes_38 (by decide) rfl ?_
      refine mg_goto (pc := 40) hC 18 dX4_comes_40 (by decide) ?_
      exact mg_sub (pc := 18) [3, 4, 5, 1, 0] (L' := [(0, .ref x0), (1, .long x1), (3, .long x3), (5, .long x7), (7, .long (x5 - x5 / x7 * x7))]) rfl (ih _ _ _ _ _ _ _ _)
def fX4_comes (x0 : Nat) (x1 : Int64) (x3 : Int64) (w : mg_H) : Option (Int32 × mg_H) := (mg_gI w 4 x0 0).bind fun v1 => if v1 = (16 : Int32) then (some ((-3 : Int32), w)) else (fX4_comes_b18 mg_N x0 x1 x3 x1 x3 w)
set_option maxHeartbeats 4000000 in
set_option maxRecDepth 100000 in
theorem kX4_comes {E : mg_P} {l : Launch} {x0 : Nat} {x1 : Int64} {x3 : Int64} {w : mg_H} {sz : Nat} {o : Int32 × mg_H} (hf : fX4_comes x0 x1 x3 w = some o) : mg_C E l yX4_comes cX4_comes 11 (some .int) 0 0 [.ref x0, .long x1, .long x3] w sz ((mg_oS mg_vI) o) := by
  refine mg_meth (out := (mg_oS mg_vI)) (by decide) (Nat.le_of_ble_eq_true rfl) hf ?_
  intro p e C S s m below meth c hC hin
  have hC : mg_Cx E p s m _ meth c cX4_comes 11 (some .int) RX4 := hC
  unfold fX4_comes
  refine mg_sub (pc := 0) [0, 1, 2] (L' := [(0, .ref x0), (1, .long x1), (3, .long x3)]) rfl ?_
  refine mg_aload_n (pc := 0) hC 0 dX4_comes_0 rfl ?_
  refine mg_getI (pc := 1) (ci := 4) (k := 0) hC mi_4 rfl (by decide) mw_445 dX4_comes_1 (fun v1 _ => ?_)
  refine mg_bipush (pc := 4) hC (16 : Int32) dX4_comes_4 (by decide) ?_
  refine mg_icmp_ne (pc := 6) hC 12 dX4_comes_6 (by decide) (fun _ => ?_) (fun _ => ?_)
  · refine mg_bipush (pc := 9) hC (-3 : Int32) dX4_comes_9 (by decide) ?_
    exact mg_iret (pc := 11) hC rfl dX4_comes_11
  · refine mg_lload_n (pc := 12) hC 1 dX4_comes_12 rfl ?_
    refine mg_lstore (pc := 13) hC [(5, .long x1), (0, .ref x0), (1, .long x1), (3, .long x3)] dX4_comes_13 (by decide) rfl ?_
    refine mg_lload_n (pc := 15) hC 3 dX4_comes_15 rfl ?_
    refine mg_lstore (pc := 16) hC [(7, .long x3), (5, .long x1), (0, .ref x0), (1, .long x1), (3, .long x3)] dX4_comes_16 (by decide) rfl ?_
    exact mg_sub (pc := 18) [2, 3, 4, 1, 0] (L' := [(0, .ref x0), (1, .long x1), (3, .long x3), (5, .long x1), (7, .long x3)]) rfl (gX4_comes_b18 hC _  _ _ _ _ _ _ _ _ _)
theorem wdX4_comes : mg_WdV 4 yX4_comes cX4_comes 11 (some .int) 2 := ⟨⟨mw_487, mw_2, by decide, by decide, by decide +kernel⟩, _, rfl, mw_486, mw_p21⟩
def fX4_angle (x0 : Nat) (x1 : Int64) (x3 : Int64) (w : mg_H) : Option (Int32 × mg_H) := (fX4_in x3 (1 : Int64) (511 : Int64)).bind fun v1 => if v1 = 0 then (some ((-1 : Int32), w)) else ((fX4_in x1 (0 : Int64) (x3 - (1 : Int64))).bind fun v2 => if v2 = 0 then (some ((-1 : Int32), w)) else (mg_rc w 4 x0 (mg_bS (fX4_comes x0 x1 x3 w) fun v3 w4 => some (v3, w4))))
set_option maxHeartbeats 4000000 in
set_option maxRecDepth 100000 in
theorem kX4_angle {E : mg_P} {l : Launch} {x0 : Nat} {x1 : Int64} {x3 : Int64} {w : mg_H} {sz : Nat} {o : Int32 × mg_H} (hf : fX4_angle x0 x1 x3 w = some o) : mg_C E l yX4_angle cX4_angle 5 (some .int) 1 30 [.ref x0, .long x1, .long x3] w sz ((mg_oS mg_vI) o) := by
  refine mg_meth (out := (mg_oS mg_vI)) (by decide) (Nat.le_of_ble_eq_true rfl) hf ?_
  intro p e C S s m below meth c hC hin
  have hC : mg_Cx E p s m _ meth c cX4_angle 5 (some .int) RX4 := hC
  unfold fX4_angle
  refine mg_sub (pc := 0) [0, 1, 2] (L' := [(0, .ref x0), (1, .long x1), (3, .long x3)]) rfl ?_
  refine mg_lload_n (pc := 0) hC 2 dX4_angle_0 rfl ?_
  refine mg_lconst (pc := 1) hC (1 : Int64) dX4_angle_1 (by decide) ?_
  refine mg_ldc2 (pc := 2) hC (511 : Int64) dX4_angle_2 mw_483 ?_
  refine mg_cRI (pc := 5) (fun r hr => mg_S (rest := []) hC wdX4_in mw_426 mw_425 dX4_angle_5 rfl rfl ⟨Nat.le_of_ble_eq_true rfl, Nat.le_of_ble_eq_true rfl⟩ (Nat.le_of_ble_eq_true rfl) (kX4_in hr)) (fun v1 _ => ?_)
  refine mg_if_eq (pc := 8) hC 31 dX4_angle_8 (by decide) (fun _ => ?_) (fun _ => ?_)
  · refine mg_iconst (pc := 31) hC (-1 : Int32) dX4_angle_31 (by decide) ?_
    exact mg_iret (pc := 32) hC rfl dX4_angle_32
  · refine mg_lload_n (pc := 11) hC 1 dX4_angle_11 rfl ?_
    refine mg_lconst (pc := 12) hC (0 : Int64) dX4_angle_12 (by decide) ?_
    refine mg_lload_n (pc := 13) hC 2 dX4_angle_13 rfl ?_
    refine mg_lconst (pc := 14) hC (1 : Int64) dX4_angle_14 (by decide) ?_
    refine mg_lsub (pc := 15) hC dX4_angle_15 ?_
    refine mg_cRI (pc := 16) (fun r hr => mg_S (rest := []) hC wdX4_in mw_426 mw_425 dX4_angle_16 rfl rfl ⟨Nat.le_of_ble_eq_true rfl, Nat.le_of_ble_eq_true rfl⟩ (Nat.le_of_ble_eq_true rfl) (kX4_in hr)) (fun v2 _ => ?_)
    refine mg_if_eq (pc := 19) hC 31 dX4_angle_19 (by decide) (fun _ => ?_) (fun _ => ?_)
    · refine mg_iconst (pc := 31) hC (-1 : Int32) dX4_angle_31 (by decide) ?_
      exact mg_iret (pc := 32) hC rfl dX4_angle_32
    · refine mg_aload_n (pc := 22) hC 0 dX4_angle_22 rfl ?_
      refine mg_lload_n (pc := 23) hC 1 dX4_angle_23 rfl ?_
      refine mg_lload_n (pc := 24) hC 2 dX4_angle_24 rfl ?_
      refine mg_recv (ci := 4) (fun hb => ?_)
      refine mg_cSI (pc := 25) (fun r hr => mg_VR (rest := []) (av := [.long x1, .long x3]) (ci := 4) hC wdX4_comes mw_484 dX4_angle_25 rfl rfl ⟨Nat.le_of_ble_eq_true rfl, Nat.le_of_ble_eq_true rfl⟩ (Nat.le_of_ble_eq_true rfl) hb (kX4_comes hr)) (fun v3 w4 _ => ?_)
      refine mg_goto (pc := 28) hC 32 dX4_angle_28 (by decide) ?_
      exact mg_iret (pc := 32) hC rfl dX4_angle_32
theorem wdX4_angle : mg_WdV 4 yX4_angle cX4_angle 5 (some .int) 2 := ⟨⟨mw_482, mw_2, by decide, by decide, by decide +kernel⟩, _, rfl, mw_480, mw_481⟩
def fX4_drop (x0 : Nat) (w : mg_H) : Option (Int32 × mg_H) := (mg_gI w 4 x0 0).bind fun v1 => if v1 = 0 then (some ((-4 : Int32), w)) else ((mg_gI w 4 x0 0).bind fun v2 => (mg_pI w 4 x0 0 (v2 - (1 : Int32))).bind fun w3 => (mg_gI w3 4 x0 0).bind fun v4 => some (v4, w3))
set_option maxHeartbeats 4000000 in
set_option maxRecDepth 100000 in
theorem kX4_drop {E : mg_P} {l : Launch} {x0 : Nat} {w : mg_H} {sz : Nat} {o : Int32 × mg_H} (hf : fX4_drop x0 w = some o) : mg_C E l yX4_drop cX4_drop 1 (some .int) 0 0 [.ref x0] w sz ((mg_oS mg_vI) o) := by
  refine mg_meth (out := (mg_oS mg_vI)) (by decide) (Nat.le_of_ble_eq_true rfl) hf ?_
  intro p e C S s m below meth c hC hin
  have hC : mg_Cx E p s m _ meth c cX4_drop 1 (some .int) RX4 := hC
  unfold fX4_drop
  refine mg_sub (pc := 0) [0] (L' := [(0, .ref x0)]) rfl ?_
  refine mg_aload_n (pc := 0) hC 0 dX4_drop_0 rfl ?_
  refine mg_getI (pc := 1) (ci := 4) (k := 0) hC mi_4 rfl (by decide) mw_445 dX4_drop_1 (fun v1 _ => ?_)
  refine mg_if_ne (pc := 4) hC 10 dX4_drop_4 (by decide) (fun _ => ?_) (fun _ => ?_)
  · refine mg_bipush (pc := 7) hC (-4 : Int32) dX4_drop_7 (by decide) ?_
    exact mg_iret (pc := 9) hC rfl dX4_drop_9
  · refine mg_aload_n (pc := 10) hC 0 dX4_drop_10 rfl ?_
    refine mg_dup (pc := 11) hC dX4_drop_11 rfl ?_
    refine mg_getI (pc := 12) (ci := 4) (k := 0) hC mi_4 rfl (by decide) mw_445 dX4_drop_12 (fun v2 _ => ?_)
    refine mg_iconst (pc := 15) hC (1 : Int32) dX4_drop_15 (by decide) ?_
    refine mg_isub (pc := 16) hC dX4_drop_16 ?_
    refine mg_putI (pc := 17) (ci := 4) (k := 0) hC mi_4 rfl (by decide) tyX4 tyX4_ok nmX4 mw_445 dX4_drop_17 (Or.inl rfl) rfl (fun w3 _ => ?_)
    refine mg_aload_n (pc := 20) hC 0 dX4_drop_20 rfl ?_
    refine mg_getI (pc := 21) (ci := 4) (k := 0) hC mi_4 rfl (by decide) mw_445 dX4_drop_21 (fun v4 _ => ?_)
    exact mg_iret (pc := 24) hC rfl dX4_drop_24
theorem wdX4_drop : mg_WdV 4 yX4_drop cX4_drop 1 (some .int) 0 := ⟨⟨mw_491, mw_2, by decide, by decide, by decide +kernel⟩, _, rfl, mw_489, mw_490⟩
end MG07
