section MG13
variable {E : mg_P} {p : Program} {l : Launch} {e : Env} {C S : Nat} {s : State} {m : MethodId} {args : Array Value} {below : List Frame} {meth : Method} {c : Code}
def fX4_count_b94 (w : mg_H) (x0 : Nat) (x1 : Int32) (x2 : Int32) (x3 : Int32) : Option (Int32) := if x1 = 0 then ((mg_gI w 4 x0 0).bind fun v1 => some v1) else (if x1 = (1 : Int32) then (some x2) else (if x1 = (2 : Int32) then (some x3) else (some (-1 : Int32))))
set_option maxHeartbeats 4000000 in
set_option maxRecDepth 100000 in
theorem gX4_count_b94 (hC : mg_Cx E p s m args meth c cX4_count 7 (some .int) RX4) (w : mg_H) (sz : Nat) (x0 : Nat) (x1 : Int32) (x2 : Int32) (x3 : Int32) (cells slots : Nat) : mg_G E p l e ({ frames := 1, cells := C, slots := S, locals := 22 } : Room) s m args below meth c 7 (mg_oR mg_vI w) (fX4_count_b94 w x0 x1 x2 x3) w sz cells slots 94 [(0, .ref x0), (1, .int x1), (2, .int x2), (3, .int x3)] [] := by
  unfold fX4_count_b94
  refine mg_iload_n (pc := 94) hC 1 dX4_count_94 rfl ?_
  refine mg_if_ne (pc := 95) hC 105 dX4_count_95 (by decide) (fun _ => ?_) (fun _ => ?_)
  · refine mg_aload_n (pc := 98) hC 0 dX4_count_98 rfl ?_
    refine mg_getI (pc := 99) (ci := 4) (k := 0) hC mi_4 rfl (by decide) mw_445 dX4_count_99 (fun v1 _ => ?_)
    refine mg_goto (pc := 102) hC 124 dX4_count_102 (by decide) ?_
    exact mg_iret (pc := 124) hC rfl dX4_count_124
  · refine mg_iload_n (pc := 105) hC 1 dX4_count_105 rfl ?_
    refine mg_iconst (pc := 106) hC (1 : Int32) dX4_count_106 (by decide) ?_
    refine mg_icmp_ne (pc := 107) hC 114 dX4_count_107 (by decide) (fun _ => ?_) (fun _ => ?_)
    · refine mg_iload_n (pc := 110) hC 2 dX4_count_110 rfl ?_
      refine mg_goto (pc := 111) hC 124 dX4_count_111 (by decide) ?_
      exact mg_iret (pc := 124) hC rfl dX4_count_124
    · refine mg_iload_n (pc := 114) hC 1 dX4_count_114 rfl ?_
      refine mg_iconst (pc := 115) hC (2 : Int32) dX4_count_115 (by decide) ?_
      refine mg_icmp_ne (pc := 116) hC 123 dX4_count_116 (by decide) (fun _ => ?_) (fun _ => ?_)
      · refine mg_iload_n (pc := 119) hC 3 dX4_count_119 rfl ?_
        refine mg_goto (pc := 120) hC 124 dX4_count_120 (by decide) ?_
        exact mg_iret (pc := 124) hC rfl dX4_count_124
      · refine mg_iconst (pc := 123) hC (-1 : Int32) dX4_count_123 (by decide) ?_
        exact mg_iret (pc := 124) hC rfl dX4_count_124
def fX4_count_b86 (w : mg_H) (r7 : Nat → Int32 → Int32 → Int32 → Int32 → Option (Int32)) (x0 : Nat) (x1 : Int32) (x2 : Int32) (x4 : Int32) (s0 : Int32) (s1 : Int32) : Option (Int32) := r7 x0 x1 x2 (s1 + s0) (x4 + (1 : Int32))
set_option maxHeartbeats 4000000 in
set_option maxRecDepth 100000 in
theorem gX4_count_b86 (hC : mg_Cx E p s m args meth c cX4_count 7 (some .int) RX4) (w : mg_H) (sz : Nat) (r7 : Nat → Int32 → Int32 → Int32 → Int32 → Option (Int32)) (hr7 : ∀ (z0 : Nat) (z1 : Int32) (z2 : Int32) (z3 : Int32) (z4 : Int32) (cells slots : Nat), mg_G E p l e ({ frames := 1, cells := C, slots := S, locals := 22 } : Room) s m args below meth c 7 (mg_oR mg_vI w) (r7 z0 z1 z2 z3 z4) w sz cells slots 7 [(0, .ref z0), (1, .int z1), (2, .int z2), (3, .int z3), (4, .int z4)] []) (x0 : Nat) (x1 : Int32) (x2 : Int32) (x4 : Int32) (s0 : Int32) (s1 : Int32) (cells slots : Nat) : mg_G E p l e ({ frames := 1, cells := C, slots := S, locals := 22 } : Room) s m args below meth c 7 (mg_oR mg_vI w) (fX4_count_b86 w r7 x0 x1 x2 x4 s0 s1) w sz cells slots 86 [(0, .ref x0), (1, .int x1), (2, .int x2), (4, .int x4)] [.int s0, .int s1] := by
  unfold fX4_count_b86
  refine mg_iadd (pc := 86) hC dX4_count_86 ?_
  refine mg_istore_n (pc := 87) hC [(3, .int (s1 + s0)), (0, .ref x0), (1, .int x1), (2, .int x2), (4, .int x4)] dX4_count_87 (by decide) rfl ?_
  refine mg_iinc (pc := 88) hC 4 (x4 + (1 : Int32)) [(4, .int (x4 + (1 : Int32))), (3, .int (s1 + s0)), (0, .ref x0), (1, .int x1), (2, .int x2)] dX4_count_88 rfl rfl (by decide) rfl ?_
  refine mg_goto (pc := 91) hC 7 dX4_count_91 (by decide) ?_
  exact mg_sub (pc := 7) [2, 3, 4, 1, 0] (L' := [(0, .ref x0), (1, .int x1), (2, .int x2), (3, .int (s1 + s0)), (4, .int (x4 + (1 : Int32)))]) rfl (hr7 _ _ _ _ _ _ _)
def fX4_count_b75 (w : mg_H) (r7 : Nat → Int32 → Int32 → Int32 → Int32 → Option (Int32)) (x0 : Nat) (x1 : Int32) (x2 : Int32) (x3 : Int32) (x4 : Int32) (x5 : Int32) : Option (Int32) := if x5 = 0 then (fX4_count_b86 w r7 x0 x1 x2 x4 (0 : Int32) x3) else (fX4_count_b86 w r7 x0 x1 x2 x4 (1 : Int32) x3)
set_option maxHeartbeats 4000000 in
set_option maxRecDepth 100000 in
theorem gX4_count_b75 (hC : mg_Cx E p s m args meth c cX4_count 7 (some .int) RX4) (w : mg_H) (sz : Nat) (r7 : Nat → Int32 → Int32 → Int32 → Int32 → Option (Int32)) (hr7 : ∀ (z0 : Nat) (z1 : Int32) (z2 : Int32) (z3 : Int32) (z4 : Int32) (cells slots : Nat), mg_G E p l e ({ frames := 1, cells := C, slots := S, locals := 22 } : Room) s m args below meth c 7 (mg_oR mg_vI w) (r7 z0 z1 z2 z3 z4) w sz cells slots 7 [(0, .ref z0), (1, .int z1), (2, .int z2), (3, .int z3), (4, .int z4)] []) (x0 : Nat) (x1 : Int32) (x2 : Int32) (x3 : Int32) (x4 : Int32) (x5 : Int32) (cells slots : Nat) : mg_G E p l e ({ frames := 1, cells := C, slots := S, locals := 22 } : Room) s m args below meth c 7 (mg_oR mg_vI w) (fX4_count_b75 w r7 x0 x1 x2 x3 x4 x5) w sz cells slots 75 [(0, .ref x0), (1, .int x1), (2, .int x2), (3, .int x3), (4, .int x4), (5, .int x5)] [] := by
  unfold fX4_count_b75
  refine mg_iload_n (pc := 75) hC 3 dX4_count_75 rfl ?_
  refine mg_iload (pc := 76) hC 5 dX4_count_76 rfl ?_
  refine mg_if_eq (pc := 78) hC 85 dX4_count_78 (by decide) (fun _ => ?_) (fun _ => ?_)
  · refine mg_iconst (pc := 85) hC (0 : Int32) dX4_count_85 (by decide) ?_
    exact mg_sub (pc := 86) [0, 1, 2, 4] (L' := [(0, .ref x0), (1, .int x1), (2, .int x2), (4, .int x4)]) rfl (gX4_count_b86 hC _ _ _ hr7 _ _ _ _ _ _ _ _)
  · refine mg_iconst (pc := 81) hC (1 : Int32) dX4_count_81 (by decide) ?_
    refine mg_goto (pc := 82) hC 86 dX4_count_82 (by decide) ?_
    exact mg_sub (pc := 86) [0, 1, 2, 4] (L' := [(0, .ref x0), (1, .int x1), (2, .int x2), (4, .int x4)]) rfl (gX4_count_b86 hC _ _ _ hr7 _ _ _ _ _ _ _ _)
def fX4_count_b67 (w : mg_H) (r7 : Nat → Int32 → Int32 → Int32 → Int32 → Option (Int32)) (r39 : Nat → Int32 → Int32 → Int32 → Int32 → Int32 → Int32 → Option (Int32)) (x0 : Nat) (x1 : Int32) (x2 : Int32) (x3 : Int32) (x4 : Int32) (x6 : Int32) (s0 : Int32) : Option (Int32) := r39 x0 x1 x2 x3 x4 s0 (x6 + (1 : Int32))
set_option maxHeartbeats 4000000 in
set_option maxRecDepth 100000 in
theorem gX4_count_b67 (hC : mg_Cx E p s m args meth c cX4_count 7 (some .int) RX4) (w : mg_H) (sz : Nat) (r7 : Nat → Int32 → Int32 → Int32 → Int32 → Option (Int32)) (hr7 : ∀ (z0 : Nat) (z1 : Int32) (z2 : Int32) (z3 : Int32) (z4 : Int32) (cells slots : Nat), mg_G E p l e ({ frames := 1, cells := C, slots := S, locals := 22 } : Room) s m args below meth c 7 (mg_oR mg_vI w) (r7 z0 z1 z2 z3 z4) w sz cells slots 7 [(0, .ref z0), (1, .int z1), (2, .int z2), (3, .int z3), (4, .int z4)] []) (r39 : Nat → Int32 → Int32 → Int32 → Int32 → Int32 → Int32 → Option (Int32)) (hr39 : ∀ (z0 : Nat) (z1 : Int32) (z2 : Int32) (z3 : Int32) (z4 : Int32) (z5 : Int32) (z6 : Int32) (cells slots : Nat), mg_G E p l e ({ frames := 1, cells := C, slots := S, locals := 22 } : Room) s m args below meth c 7 (mg_oR mg_vI w) (r39 z0 z1 z2 z3 z4 z5 z6) w sz cells slots 39 [(0, .ref z0), (1, .int z1), (2, .int z2), (3, .int z3), (4, .int z4), (5, .int z5), (6, .int z6)] []) (x0 : Nat) (x1 : Int32) (x2 : Int32) (x3 : Int32) (x4 : Int32) (x6 : Int32) (s0 : Int32) (cells slots : Nat) : mg_G E p l e ({ frames := 1, cells := C, slots := S, locals := 22 } : Room) s m args below meth c 7 (mg_oR mg_vI w) (fX4_count_b67 w r7 r39 x0 x1 x2 x3 x4 x6 s0) w sz cells slots 67 [(0, .ref x0), (1, .int x1), (2, .int x2), (3, .int x3), (4, .int x4), (6, .int x6)] [.int s0] := by
  unfold fX4_count_b67
  refine mg_istore (pc := 67) hC [(5, .int s0), (0, .ref x0), (1, .int x1), (2, .int x2), (3, .int x3), (4, .int x4), (6, .int x6)] dX4_count_67 (by decide) rfl ?_
  refine mg_iinc (pc := 69) hC 6 (x6 + (1 : Int32)) [(6, .int (x6 + (1 : Int32))), (5, .int s0), (0, .ref x0), (1, .int x1), (2, .int x2), (3, .int x3), (4, .int x4)] dX4_count_69 rfl rfl (by decide) rfl ?_
  refine mg_goto (pc := 72) hC 39 dX4_count_72 (by decide) ?_
  exact mg_sub (pc := 39) [2, 3, 4, 5, 6, 1, 0] (L' := [(0, .ref x0), (1, .int x1), (2, .int x2), (3, .int x3), (4, .int x4), (5, .int s0), (6, .int (x6 + (1 : Int32)))]) rfl (hr39 _ _ _ _ _ _ _ _ _)
def fX4_count_b66 (w : mg_H) (r7 : Nat → Int32 → Int32 → Int32 → Int32 → Option (Int32)) (r39 : Nat → Int32 → Int32 → Int32 → Int32 → Int32 → Int32 → Option (Int32)) (x0 : Nat) (x1 : Int32) (x2 : Int32) (x3 : Int32) (x4 : Int32) (x6 : Int32) : Option (Int32) := fX4_count_b67 w r7 r39 x0 x1 x2 x3 x4 x6 (0 : Int32)
set_option maxHeartbeats 4000000 in
set_option maxRecDepth 100000 in
theorem gX4_count_b66 (hC : mg_Cx E p s m args meth c cX4_count 7 (some .int) RX4) (w : mg_H) (sz : Nat) (r7 : Nat → Int32 → Int32 → Int32 → Int32 → Option (Int32)) (hr7 : ∀ (z0 : Nat) (z1 : Int32) (z2 : Int32) (z3 : Int32) (z4 : Int32) (cells slots : Nat), mg_G E p l e ({ frames := 1, cells := C, slots := S, locals := 22 } : Room) s m args below meth c 7 (mg_oR mg_vI w) (r7 z0 z1 z2 z3 z4) w sz cells slots 7 [(0, .ref z0), (1, .int z1), (2, .int z2), (3, .int z3), (4, .int z4)] []) (r39 : Nat → Int32 → Int32 → Int32 → Int32 → Int32 → Int32 → Option (Int32)) (hr39 : ∀ (z0 : Nat) (z1 : Int32) (z2 : Int32) (z3 : Int32) (z4 : Int32) (z5 : Int32) (z6 : Int32) (cells slots : Nat), mg_G E p l e ({ frames := 1, cells := C, slots := S, locals := 22 } : Room) s m args below meth c 7 (mg_oR mg_vI w) (r39 z0 z1 z2 z3 z4 z5 z6) w sz cells slots 39 [(0, .ref z0), (1, .int z1), (2, .int z2), (3, .int z3), (4, .int z4), (5, .int z5), (6, .int z6)] []) (x0 : Nat) (x1 : Int32) (x2 : Int32) (x3 : Int32) (x4 : Int32) (x6 : Int32) (cells slots : Nat) : mg_G E p l e ({ frames := 1, cells := C, slots := S, locals := 22 } : Room) s m args below meth c 7 (mg_oR mg_vI w) (fX4_count_b66 w r7 r39 x0 x1 x2 x3 x4 x6) w sz cells slots 66 [(0, .ref x0), (1, .int x1), (2, .int x2), (3, .int x3), (4, .int x4), (6, .int x6)] [] := by
  unfold fX4_count_b66
  refine mg_iconst (pc := 66) hC (0 : Int32) dX4_count_66 (by decide) ?_
  exact mg_sub (pc := 67) [0, 1, 2, 3, 4, 5] (L' := [(0, .ref x0), (1, .int x1), (2, .int x2), (3, .int x3), (4, .int x4), (6, .int x6)]) rfl (gX4_count_b67 hC _ _ _ hr7 _ hr39 _ _ _ _ _ _ _ _ _)
def fX4_count_b39 (w : mg_H) (r7 : Nat → Int32 → Int32 → Int32 → Int32 → Option (Int32)) : Nat → Nat → Int32 → Int32 → Int32 → Int32 → Int32 → Int32 → Option (Int32)
  | 0, _, _, _, _, _, _, _ => none
  | n + 1, x0, x1, x2, x3, x4, x5, x6 => if x4 ≤ x6 then (fX4_count_b75 w r7 x0 x1 x2 x3 x4 x5) else (if x5 = 0 then (fX4_count_b66 w r7 (fX4_count_b39 w r7 n) x0 x1 x2 x3 x4 x6) else (mg_rc w 4 x0 ((fX4_isSame x0 x4 x6 w).bind fun v1 => if v1 = 0 then (fX4_count_b67 w r7 (fX4_count_b39 w r7 n) x0 x1 x2 x3 x4 x6 (1 : Int32)) else (fX4_count_b66 w r7 (fX4_count_b39 w r7 n) x0 x1 x2 x3 x4 x6))))
set_option maxHeartbeats 4000000 in
set_option maxRecDepth 100000 in
theorem gX4_count_b39 (hC : mg_Cx E p s m args meth c cX4_count 7 (some .int) RX4) (w : mg_H) (sz : Nat) (r7 : Nat → Int32 → Int32 → Int32 → Int32 → Option (Int32)) (hr7 : ∀ (z0 : Nat) (z1 : Int32) (z2 : Int32) (z3 : Int32) (z4 : Int32) (cells slots : Nat), mg_G E p l e ({ frames := 1, cells := C, slots := S, locals := 22 } : Room) s m args below meth c 7 (mg_oR mg_vI w) (r7 z0 z1 z2 z3 z4) w sz cells slots 7 [(0, .ref z0), (1, .int z1), (2, .int z2), (3, .int z3), (4, .int z4)] []) : ∀ (n : Nat) (x0 : Nat) (x1 : Int32) (x2 : Int32) (x3 : Int32) (x4 : Int32) (x5 : Int32) (x6 : Int32) (cells slots : Nat), mg_G E p l e ({ frames := 1, cells := C, slots := S, locals := 22 } : Room) s m args below meth c 7 (mg_oR mg_vI w) (fX4_count_b39 w r7 n x0 x1 x2 x3 x4 x5 x6) w sz cells slots 39 [(0, .ref x0), (1, .int x1), (2, .int x2), (3, .int x3), (4, .int x4), (5, .int x5), (6, .int x6)] [] := by
  intro n
  induction n with
  | zero => intros; exact fun o hf => by rw [fX4_count_b39] at hf; cases hf
  | succ n ih =>
    intro x0 x1 x2 x3 x4 x5 x6 cells slots
    rw [fX4_count_b39]
    refine mg_iload (pc := 39) hC 6 dX4_count_39 rfl ?_
    refine mg_iload (pc := 41) hC 4 dX4_count_41 rfl ?_
    refine mg_icmp_ge (pc := 43) hC 75 dX4_count_43 (by decide) (fun _ => ?_) (fun _ => ?_)
    · exact mg_sub (pc := 75) [0, 1, 2, 3, 4, 5] (L' := [(0, .ref x0), (1, .int x1), (2, .int x2), (3, .int x3), (4, .int x4), (5, .int x5)]) rfl (gX4_count_b75 hC _ _ _ hr7 _ _ _ _ _ _ _ _)
    · refine mg_iload (pc := 46) hC 5 dX4_count_46 rfl ?_
      refine mg_if_eq (pc := 48) hC 66 dX4_count_48 (by decide) (fun _ => ?_) (fun _ => ?_)
      · exact mg_sub (pc := 66) [0, 1, 2, 3, 4, 6] (L' := [(0, .ref x0), (1, .int x1), (2, .int x2), (3, .int x3), (4, .int x4), (6, .int x6)]) rfl (gX4_count_b66 hC _ _ _ hr7 _ ih _ _ _ _ _ _ _ _)
      · refine mg_aload_n (pc := 51) hC 0 dX4_count_51 rfl ?_
        refine mg_iload (pc := 52) hC 4 dX4_count_52 rfl ?_
        refine mg_iload (pc := 54) hC 6 dX4_count_54 rfl ?_
        refine mg_recv (ci := 4) (fun hb => ?_)
        refine mg_cRI (pc := 56) (fun r hr => mg_VR (rest := []) (av := [.int x4, .int x6]) (ci := 4) hC wdX4_isSame mw_543 dX4_count_56 rfl rfl ⟨Nat.le_of_ble_eq_true rfl, Nat.le_of_ble_eq_true rfl⟩ (Nat.le_of_ble_eq_true rfl) hb (kX4_isSame hr)) (fun v1 _ => ?_)
        refine mg_if_ne (pc := 59) hC 66 dX4_count_59 (by decide) (fun _ => ?_) (fun _ => ?_)
        · refine mg_iconst (pc := 62) hC (1 : Int32) dX4_count_62 (by decide) ?_
          refine mg_goto (pc := 63) hC 67 dX4_count_63 (by decide) ?_
          exact mg_sub (pc := 67) [0, 1, 2, 3, 4, 6] (L' := [(0, .ref x0), (1, .int x1), (2, .int x2), (3, .int x3), (4, .int x4), (6, .int x6)]) rfl (gX4_count_b67 hC _ _ _ hr7 _ ih _ _ _ _ _ _ _ _ _)
        · exact mg_sub (pc := 66) [0, 1, 2, 3, 4, 6] (L' := [(0, .ref x0), (1, .int x1), (2, .int x2), (3, .int x3), (4, .int x4), (6, .int x6)]) rfl (gX4_count_b66 hC _ _ _ hr7 _ ih _ _ _ _ _ _ _ _)
def fX4_count_b31 (w : mg_H) (r7 : Nat → Int32 → Int32 → Int32 → Int32 → Option (Int32)) (x0 : Nat) (x1 : Int32) (x3 : Int32) (x4 : Int32) (s0 : Int32) (s1 : Int32) : Option (Int32) := fX4_count_b39 w r7 mg_N x0 x1 (s1 + s0) x3 x4 (1 : Int32) (0 : Int32)
set_option maxHeartbeats 4000000 in
set_option maxRecDepth 100000 in
theorem gX4_count_b31 (hC : mg_Cx E p s m args meth c cX4_count 7 (some .int) RX4) (w : mg_H) (sz : Nat) (r7 : Nat → Int32 → Int32 → Int32 → Int32 → Option (Int32)) (hr7 : ∀ (z0 : Nat) (z1 : Int32) (z2 : Int32) (z3 : Int32) (z4 : Int32) (cells slots : Nat), mg_G E p l e ({ frames := 1, cells := C, slots := S, locals := 22 } : Room) s m args below meth c 7 (mg_oR mg_vI w) (r7 z0 z1 z2 z3 z4) w sz cells slots 7 [(0, .ref z0), (1, .int z1), (2, .int z2), (3, .int z3), (4, .int z4)] []) (x0 : Nat) (x1 : Int32) (x3 : Int32) (x4 : Int32) (s0 : Int32) (s1 : Int32) (cells slots : Nat) : mg_G E p l e ({ frames := 1, cells := C, slots := S, locals := 22 } : Room) s m args below meth c 7 (mg_oR mg_vI w) (fX4_count_b31 w r7 x0 x1 x3 x4 s0 s1) w sz cells slots 31 [(0, .ref x0), (1, .int x1), (3, .int x3), (4, .int x4)] [.int s0, .int s1] := by
  unfold fX4_count_b31
  refine mg_iadd (pc := 31) hC dX4_count_31 ?_
  refine mg_istore_n (pc := 32) hC [(2, .int (s1 + s0)), (0, .ref x0), (1, .int x1), (3, .int x3), (4, .int x4)] dX4_count_32 (by decide) rfl ?_
  refine mg_iconst (pc := 33) hC (1 : Int32) dX4_count_33 (by decide) ?_
  refine mg_istore (pc := 34) hC [(5, .int (1 : Int32)), (2, .int (s1 + s0)), (0, .ref x0), (1, .int x1), (3, .int x3), (4, .int x4)] dX4_count_34 (by decide) rfl ?_
  refine mg_iconst (pc := 36) hC (0 : Int32) dX4_count_36 (by decide) ?_
  refine mg_istore (pc := 37) hC [(6, .int (0 : Int32)), (5, .int (1 : Int32)), (2, .int (s1 + s0)), (0, .ref x0), (1, .int x1), (3, .int x3), (4, .int x4)] dX4_count_37 (by decide) rfl ?_
  exact mg_sub (pc := 39) [3, 4, 2, 5, 6, 1, 0] (L' := [(0, .ref x0), (1, .int x1), (2, .int (s1 + s0)), (3, .int x3), (4, .int x4), (5, .int (1 : Int32)), (6, .int (0 : Int32))]) rfl (gX4_count_b39 hC _ _ _ hr7 _ _ _ _ _ _ _ _ _ _)
def fX4_count_b7 (w : mg_H) : Nat → Nat → Int32 → Int32 → Int32 → Int32 → Option (Int32)
  | 0, _, _, _, _, _ => none
  | n + 1, x0, x1, x2, x3, x4 => (mg_gI w 4 x0 0).bind fun v1 => if v1 ≤ x4 then (fX4_count_b94 w x0 x1 x2 x3) else (mg_rc w 4 x0 ((fX4_isBack x0 x4 w).bind fun v2 => if v2 = 0 then (fX4_count_b31 w (fX4_count_b7 w n) x0 x1 x3 x4 (0 : Int32) x2) else (fX4_count_b31 w (fX4_count_b7 w n) x0 x1 x3 x4 (1 : Int32) x2)))
set_option maxHeartbeats 4000000 in
set_option maxRecDepth 100000 in
theorem gX4_count_b7 (hC : mg_Cx E p s m args meth c cX4_count 7 (some .int) RX4) (w : mg_H) (sz : Nat) : ∀ (n : Nat) (x0 : Nat) (x1 : Int32) (x2 : Int32) (x3 : Int32) (x4 : Int32) (cells slots : Nat), mg_G E p l e ({ frames := 1, cells := C, slots := S, locals := 22 } : Room) s m args below meth c 7 (mg_oR mg_vI w) (fX4_count_b7 w n x0 x1 x2 x3 x4) w sz cells slots 7 [(0, .ref x0), (1, .int x1), (2, .int x2), (3, .int x3), (4, .int x4)] [] := by
  intro n
  induction n with
  | zero => intros; exact fun o hf => by rw [fX4_count_b7] at hf; cases hf
  | succ n ih =>
    intro x0 x1 x2 x3 x4 cells slots
    rw [fX4_count_b7]
    refine mg_iload (pc := 7) hC 4 dX4_count_7 rfl ?_
    refine mg_aload_n (pc := 9) hC 0 dX4_count_9 rfl ?_
    refine mg_getI (pc := 10) (ci := 4) (k := 0) hC mi_4 rfl (by decide) mw_445 dX4_count_10 (fun v1 _ => ?_)
    refine mg_icmp_ge (pc := 13) hC 94 dX4_count_13 (by decide) (fun _ => ?_) (fun _ => ?_)
    · exact mg_sub (pc := 94) [0, 1, 2, 3] (L' := [(0, .ref x0), (1, .int x1), (2, .int x2), (3, .int x3)]) rfl (gX4_count_b94 hC _ _  _ _ _ _ _ _)
    · refine mg_iload_n (pc := 16) hC 2 dX4_count_16 rfl ?_
      refine mg_aload_n (pc := 17) hC 0 dX4_count_17 rfl ?_
      refine mg_iload (pc := 18) hC 4 dX4_count_18 rfl ?_
      refine mg_recv (ci := 4) (fun hb => ?_)
      refine mg_cRI (pc := 20) (fun r hr => mg_VR (rest := [.int x2]) (av := [.int x4]) (ci := 4) hC wdX4_isBack mw_535 dX4_count_20 rfl rfl ⟨Nat.le_of_ble_eq_true rfl, Nat.le_of_ble_eq_true rfl⟩ (Nat.le_of_ble_eq_true rfl) hb (kX4_isBack hr)) (fun v2 _ => ?_)
      refine mg_if_eq (pc := 23) hC 30 dX4_count_23 (by decide) (fun _ => ?_) (fun _ => ?_)
      · refine mg_iconst (pc := 30) hC (0 : Int32) dX4_count_30 (by decide) ?_
        exact mg_sub (pc := 31) [0, 1, 3, 4] (L' := [(0, .ref x0), (1, .int x1), (3, .int x3), (4, .int x4)]) rfl (gX4_count_b31 hC _ _ _ ih _ _ _ _ _ _ _ _)
      · refine mg_iconst (pc := 26) hC (1 : Int32) dX4_count_26 (by decide) ?_
        refine mg_goto (pc := 27) hC 31 dX4_count_27 (by decide) ?_
        exact mg_sub (pc := 31) [0, 1, 3, 4] (L' := [(0, .ref x0), (1, .int x1), (3, .int x3), (4, .int x4)]) rfl (gX4_count_b31 hC _ _ _ ih _ _ _ _ _ _ _ _)
def fX4_count (x0 : Nat) (x1 : Int32) (w : mg_H) : Option (Int32) := fX4_count_b7 w mg_N x0 x1 (0 : Int32) (0 : Int32) (0 : Int32)
set_option maxHeartbeats 4000000 in
set_option maxRecDepth 100000 in
theorem kX4_count {E : mg_P} {l : Launch} {x0 : Nat} {x1 : Int32} {w : mg_H} {sz : Nat} {o : Int32} (hf : fX4_count x0 x1 w = some o) : mg_C E l yX4_count cX4_count 7 (some .int) 1 22 [.ref x0, .int x1] w sz ((mg_oR mg_vI w) o) := by
  refine mg_meth (out := (mg_oR mg_vI w)) (by decide) (Nat.le_of_ble_eq_true rfl) hf ?_
  intro p e C S s m below meth c hC hin
  have hC : mg_Cx E p s m _ meth c cX4_count 7 (some .int) RX4 := hC
  unfold fX4_count
  refine mg_sub (pc := 0) [0, 1] (L' := [(0, .ref x0), (1, .int x1)]) rfl ?_
  refine mg_iconst (pc := 0) hC (0 : Int32) dX4_count_0 (by decide) ?_
  refine mg_istore_n (pc := 1) hC [(2, .int (0 : Int32)), (0, .ref x0), (1, .int x1)] dX4_count_1 (by decide) rfl ?_
  refine mg_iconst (pc := 2) hC (0 : Int32) dX4_count_2 (by decide) ?_
  refine mg_istore_n (pc := 3) hC [(3, .int (0 : Int32)), (2, .int (0 : Int32)), (0, .ref x0), (1, .int x1)] dX4_count_3 (by decide) rfl ?_
  refine mg_iconst (pc := 4) hC (0 : Int32) dX4_count_4 (by decide) ?_
  refine mg_istore (pc := 5) hC [(4, .int (0 : Int32)), (3, .int (0 : Int32)), (2, .int (0 : Int32)), (0, .ref x0), (1, .int x1)] dX4_count_5 (by decide) rfl ?_
  exact mg_sub (pc := 7) [3, 4, 2, 1, 0] (L' := [(0, .ref x0), (1, .int x1), (2, .int (0 : Int32)), (3, .int (0 : Int32)), (4, .int (0 : Int32))]) rfl (gX4_count_b7 hC _ _  _ _ _ _ _ _ _ _)
theorem wdX4_count : mg_WdV 4 yX4_count cX4_count 7 (some .int) 1 := ⟨⟨mw_653, mw_2, by decide, by decide, by decide +kernel⟩, _, rfl, mw_651, mw_652⟩
end MG13
