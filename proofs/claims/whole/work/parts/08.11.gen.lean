section MG11
variable {E : mg_P} {p : Program} {l : Launch} {e : Env} {C S : Nat} {s : State} {m : MethodId} {args : Array Value} {below : List Frame} {meth : Method} {c : Code}
def fX4_between_b188 (w : mg_H) (r125 : Nat → Int32 → Int32 → Int32 → Int32 → Int32 → Option (Int32)) (x0 : Nat) (x3 : Int32) (x6 : Int32) (x7 : Int32) (x9 : Int32) (s0 : Int32) (s1 : Int32) : Option (Int32) := r125 x0 x3 x6 x7 (s1 + s0) (x9 + (1 : Int32))
set_option maxHeartbeats 4000000 in
set_option maxRecDepth 100000 in
theorem gX4_between_b188 (hC : mg_Cx E p s m args meth c cX4_between 10 (some .int) RX4) (w : mg_H) (sz : Nat) (r125 : Nat → Int32 → Int32 → Int32 → Int32 → Int32 → Option (Int32)) (hr125 : ∀ (z0 : Nat) (z3 : Int32) (z6 : Int32) (z7 : Int32) (z8 : Int32) (z9 : Int32) (cells slots : Nat), mg_G E p l e ({ frames := 2, cells := C, slots := S, locals := 53 } : Room) s m args below meth c 10 (mg_oR mg_vI w) (r125 z0 z3 z6 z7 z8 z9) w sz cells slots 125 [(0, .ref z0), (3, .int z3), (6, .int z6), (7, .int z7), (8, .int z8), (9, .int z9)] []) (x0 : Nat) (x3 : Int32) (x6 : Int32) (x7 : Int32) (x9 : Int32) (s0 : Int32) (s1 : Int32) (cells slots : Nat) : mg_G E p l e ({ frames := 2, cells := C, slots := S, locals := 53 } : Room) s m args below meth c 10 (mg_oR mg_vI w) (fX4_between_b188 w r125 x0 x3 x6 x7 x9 s0 s1) w sz cells slots 188 [(0, .ref x0), (3, .int x3), (6, .int x6), (7, .int x7), (9, .int x9)] [.int s0, .int s1] := by
  unfold fX4_between_b188
  refine mg_iadd (pc := 188) hC dX4_between_188 ?_
  refine mg_istore (pc := 189) hC [(8, .int (s1 + s0)), (0, .ref x0), (3, .int x3), (6, .int x6), (7, .int x7), (9, .int x9)] dX4_between_189 (by decide) rfl ?_
  refine mg_iinc (pc := 191) hC 5 (x9 + (1 : Int32)) [(9, .int (x9 + (1 : Int32))), (8, .int (s1 + s0)), (0, .ref x0), (3, .int x3), (6, .int x6), (7, .int x7)] dX4_between_191 rfl rfl (by decide) rfl ?_
  refine mg_goto (pc := 194) hC 125 dX4_between_194 (by decide) ?_
  exact mg_sub (pc := 125) [2, 3, 4, 5, 1, 0] (L' := [(0, .ref x0), (3, .int x3), (6, .int x6), (7, .int x7), (8, .int (s1 + s0)), (9, .int (x9 + (1 : Int32)))]) rfl (hr125 _ _ _ _ _ _ _ _)
def fX4_between_b187 (w : mg_H) (r125 : Nat → Int32 → Int32 → Int32 → Int32 → Int32 → Option (Int32)) (x0 : Nat) (x3 : Int32) (x6 : Int32) (x7 : Int32) (x9 : Int32) (s0 : Int32) : Option (Int32) := fX4_between_b188 w r125 x0 x3 x6 x7 x9 (0 : Int32) s0
set_option maxHeartbeats 4000000 in
set_option maxRecDepth 100000 in
theorem gX4_between_b187 (hC : mg_Cx E p s m args meth c cX4_between 10 (some .int) RX4) (w : mg_H) (sz : Nat) (r125 : Nat → Int32 → Int32 → Int32 → Int32 → Int32 → Option (Int32)) (hr125 : ∀ (z0 : Nat) (z3 : Int32) (z6 : Int32) (z7 : Int32) (z8 : Int32) (z9 : Int32) (cells slots : Nat), mg_G E p l e ({ frames := 2, cells := C, slots := S, locals := 53 } : Room) s m args below meth c 10 (mg_oR mg_vI w) (r125 z0 z3 z6 z7 z8 z9) w sz cells slots 125 [(0, .ref z0), (3, .int z3), (6, .int z6), (7, .int z7), (8, .int z8), (9, .int z9)] []) (x0 : Nat) (x3 : Int32) (x6 : Int32) (x7 : Int32) (x9 : Int32) (s0 : Int32) (cells slots : Nat) : mg_G E p l e ({ frames := 2, cells := C, slots := S, locals := 53 } : Room) s m args below meth c 10 (mg_oR mg_vI w) (fX4_between_b187 w r125 x0 x3 x6 x7 x9 s0) w sz cells slots 187 [(0, .ref x0), (3, .int x3), (6, .int x6), (7, .int x7), (9, .int x9)] [.int s0] := by
  unfold fX4_between_b187
  refine mg_iconst (pc := 187) hC (0 : Int32) dX4_between_187 (by decide) ?_
  exact mg_sub (pc := 188) [0, 1, 2, 3, 4] (L' := [(0, .ref x0), (3, .int x3), (6, .int x6), (7, .int x7), (9, .int x9)]) rfl (gX4_between_b188 hC _ _ _ hr125 _ _ _ _ _ _ _ _ _)
def fX4_between_b125 (w : mg_H) : Nat → Nat → Int32 → Int32 → Int32 → Int32 → Int32 → Option (Int32)
  | 0, _, _, _, _, _, _ => none
  | n + 1, x0, x3, x6, x7, x8, x9 => (mg_gI w 4 x0 3).bind fun v1 => if v1 ≤ x9 then (some x8) else (if x9 = x6 then (fX4_between_b187 w (fX4_between_b125 w n) x0 x3 x6 x7 x9 x8) else (if x9 = x7 then (fX4_between_b187 w (fX4_between_b125 w n) x0 x3 x6 x7 x9 x8) else (mg_gN w 4 x0 4 fun v2 => (mg_ldI w 0 v2 x9).bind fun v3 => if x3 < v3 then (fX4_between_b187 w (fX4_between_b125 w n) x0 x3 x6 x7 x9 x8) else (mg_rc w 4 x0 ((fX4_isOrHolds x0 x6 x9 w).bind fun v4 => if v4 = 0 then (fX4_between_b187 w (fX4_between_b125 w n) x0 x3 x6 x7 x9 x8) else (mg_rc w 4 x0 ((fX4_isOrHolds x0 x9 x7 w).bind fun v5 => if v5 = 0 then (fX4_between_b187 w (fX4_between_b125 w n) x0 x3 x6 x7 x9 x8) else (fX4_between_b188 w (fX4_between_b125 w n) x0 x3 x6 x7 x9 (1 : Int32) x8))))))))
set_option maxHeartbeats 4000000 in
set_option maxRecDepth 100000 in
theorem gX4_between_b125 (hC : mg_Cx E p s m args meth c cX4_between 10 (some .int) RX4) (w : mg_H) (sz : Nat) : ∀ (n : Nat) (x0 : Nat) (x3 : Int32) (x6 : Int32) (x7 : Int32) (x8 : Int32) (x9 : Int32) (cells slots : Nat), mg_G E p l e ({ frames := 2, cells := C, slots := S, locals := 53 } : Room) s m args below meth c 10 (mg_oR mg_vI w) (fX4_between_b125 w n x0 x3 x6 x7 x8 x9) w sz cells slots 125 [(0, .ref x0), (3, .int x3), (6, .int x6), (7, .int x7), (8, .int x8), (9, .int x9)] [] := by
  intro n
  induction n with
  | zero => intros; exact fun o hf => by rw [fX4_between_b125] at hf; cases hf
  | succ n ih =>
    intro x0 x3 x6 x7 x8 x9 cells slots
    rw [fX4_between_b125]
    refine mg_iload (pc := 125) hC 5 dX4_between_125 rfl ?_
    refine mg_aload_n (pc := 127) hC 0 dX4_between_127 rfl ?_
    refine mg_getI (pc := 128) (ci := 4) (k := 3) hC mi_4 rfl (by decide) mw_448 dX4_between_128 (fun v1 _ => ?_)
    refine mg_icmp_ge (pc := 131) hC 197 dX4_between_131 (by decide) (fun _ => ?_) (fun _ => ?_)
    · refine mg_iload (pc := 197) hC 4 dX4_between_197 rfl ?_
      exact mg_iret (pc := 199) hC rfl dX4_between_199
    · refine mg_iload (pc := 134) hC 4 dX4_between_134 rfl ?_
      refine mg_iload (pc := 136) hC 5 dX4_between_136 rfl ?_
      refine mg_iload (pc := 138) hC 2 dX4_between_138 rfl ?_
      refine mg_icmp_eq (pc := 140) hC 187 dX4_between_140 (by decide) (fun _ => ?_) (fun _ => ?_)
      · exact mg_sub (pc := 187) [0, 1, 2, 3, 5] (L' := [(0, .ref x0), (3, .int x3), (6, .int x6), (7, .int x7), (9, .int x9)]) rfl (gX4_between_b187 hC _ _ _ ih _ _ _ _ _ _ _ _)
      · refine mg_iload (pc := 143) hC 5 dX4_between_143 rfl ?_
        refine mg_iload (pc := 145) hC 3 dX4_between_145 rfl ?_
        refine mg_icmp_eq (pc := 147) hC 187 dX4_between_147 (by decide) (fun _ => ?_) (fun _ => ?_)
        · exact mg_sub (pc := 187) [0, 1, 2, 3, 5] (L' := [(0, .ref x0), (3, .int x3), (6, .int x6), (7, .int x7), (9, .int x9)]) rfl (gX4_between_b187 hC _ _ _ ih _ _ _ _ _ _ _ _)
        · refine mg_aload_n (pc := 150) hC 0 dX4_between_150 rfl ?_
          refine mg_getNN (pc := 151) (ci := 4) (k := 4) hC mi_4 rfl (by decide) mw_449 dX4_between_151 (fun v2 _ => ?_)
          refine mg_iload (pc := 154) hC 5 dX4_between_154 rfl ?_
          refine mg_iald (pc := 156) hC dX4_between_156 (fun v3 _ => ?_)
          refine mg_iload_n (pc := 157) hC 1 dX4_between_157 rfl ?_
          refine mg_icmp_gt (pc := 158) hC 187 dX4_between_158 (by decide) (fun _ => ?_) (fun _ => ?_)
          · exact mg_sub (pc := 187) [0, 1, 2, 3, 5] (L' := [(0, .ref x0), (3, .int x3), (6, .int x6), (7, .int x7), (9, .int x9)]) rfl (gX4_between_b187 hC _ _ _ ih _ _ _ _ _ _ _ _)
          · refine mg_aload_n (pc := 161) hC 0 dX4_between_161 rfl ?_
            refine mg_iload (pc := 162) hC 2 dX4_between_162 rfl ?_
            refine mg_iload (pc := 164) hC 5 dX4_between_164 rfl ?_
            refine mg_recv (ci := 4) (fun hb => ?_)
            refine mg_cRI (pc := 166) (fun r hr => mg_VR (rest := [.int x8]) (av := [.int x6, .int x9]) (ci := 4) hC wdX4_isOrHolds mw_593 dX4_between_166 rfl rfl ⟨Nat.le_of_ble_eq_true rfl, Nat.le_of_ble_eq_true rfl⟩ (Nat.le_of_ble_eq_true rfl) hb (kX4_isOrHolds hr)) (fun v4 _ => ?_)
            refine mg_if_eq (pc := 169) hC 187 dX4_between_169 (by decide) (fun _ => ?_) (fun _ => ?_)
            · exact mg_sub (pc := 187) [0, 1, 2, 3, 5] (L' := [(0, .ref x0), (3, .int x3), (6, .int x6), (7, .int x7), (9, .int x9)]) rfl (gX4_between_b187 hC _ _ _ ih _ _ _ _ _ _ _ _)
            · refine mg_aload_n (pc := 172) hC 0 dX4_between_172 rfl ?_
              refine mg_iload (pc := 173) hC 5 dX4_between_173 rfl ?_
              refine mg_iload (pc := 175) hC 3 dX4_between_175 rfl ?_
              refine mg_recv (ci := 4) (fun hb => ?_)
              refine mg_cRI (pc := 177) (fun r hr => mg_VR (rest := [.int x8]) (av := [.int x9, .int x7]) (ci := 4) hC wdX4_isOrHolds mw_593 dX4_between_177 rfl rfl ⟨Nat.le_of_ble_eq_true rfl, Nat.le_of_ble_eq_true rfl⟩ (Nat.le_of_ble_eq_true rfl) hb (kX4_isOrHolds hr)) (fun v5 _ => ?_)
              refine mg_if_eq (pc := 180) hC 187 dX4_between_180 (by decide) (fun _ => ?_) (fun _ => ?_)
              · exact mg_sub (pc := 187) [0, 1, 2, 3, 5] (L' := [(0, .ref x0), (3, .int x3), (6, .int x6), (7, .int x7), (9, .int x9)]) rfl (gX4_between_b187 hC _ _ _ ih _ _ _ _ _ _ _ _)
              · refine mg_iconst (pc := 183) hC (1 : Int32) dX4_between_183 (by decide) ?_
                refine mg_goto (pc := 184) hC 188 dX4_between_184 (by decide) ?_
                exact mg_sub (pc := 188) [0, 1, 2, 3, 5] (L' := [(0, .ref x0), (3, .int x3), (6, .int x6), (7, .int x7), (9, .int x9)]) rfl (gX4_between_b188 hC _ _ _ ih _ _ _ _ _ _ _ _ _)
def fX4_between_b117 (w : mg_H) (x0 : Nat) (x3 : Int32) (x6 : Int32) (s0 : Int32) : Option (Int32) := fX4_between_b125 w mg_N x0 x3 x6 s0 (0 : Int32) (0 : Int32)
set_option maxHeartbeats 4000000 in
set_option maxRecDepth 100000 in
theorem gX4_between_b117 (hC : mg_Cx E p s m args meth c cX4_between 10 (some .int) RX4) (w : mg_H) (sz : Nat) (x0 : Nat) (x3 : Int32) (x6 : Int32) (s0 : Int32) (cells slots : Nat) : mg_G E p l e ({ frames := 2, cells := C, slots := S, locals := 53 } : Room) s m args below meth c 10 (mg_oR mg_vI w) (fX4_between_b117 w x0 x3 x6 s0) w sz cells slots 117 [(0, .ref x0), (3, .int x3), (6, .int x6)] [.int s0] := by
  unfold fX4_between_b117
  refine mg_istore (pc := 117) hC [(7, .int s0), (0, .ref x0), (3, .int x3), (6, .int x6)] dX4_between_117 (by decide) rfl ?_
  refine mg_iconst (pc := 119) hC (0 : Int32) dX4_between_119 (by decide) ?_
  refine mg_istore (pc := 120) hC [(8, .int (0 : Int32)), (7, .int s0), (0, .ref x0), (3, .int x3), (6, .int x6)] dX4_between_120 (by decide) rfl ?_
  refine mg_iconst (pc := 122) hC (0 : Int32) dX4_between_122 (by decide) ?_
  refine mg_istore (pc := 123) hC [(9, .int (0 : Int32)), (8, .int (0 : Int32)), (7, .int s0), (0, .ref x0), (3, .int x3), (6, .int x6)] dX4_between_123 (by decide) rfl ?_
  exact mg_sub (pc := 125) [3, 4, 5, 2, 1, 0] (L' := [(0, .ref x0), (3, .int x3), (6, .int x6), (7, .int s0), (8, .int (0 : Int32)), (9, .int (0 : Int32))]) rfl (gX4_between_b125 hC _ _  _ _ _ _ _ _ _ _ _)
def fX4_between_b101 (w : mg_H) (x0 : Nat) (x3 : Int32) (x4 : Int32) (x5 : Int32) (s0 : Int32) : Option (Int32) := if s0 = x4 then (fX4_between_b117 w x0 x3 s0 x5) else (fX4_between_b117 w x0 x3 s0 x4)
set_option maxHeartbeats 4000000 in
set_option maxRecDepth 100000 in
theorem gX4_between_b101 (hC : mg_Cx E p s m args meth c cX4_between 10 (some .int) RX4) (w : mg_H) (sz : Nat) (x0 : Nat) (x3 : Int32) (x4 : Int32) (x5 : Int32) (s0 : Int32) (cells slots : Nat) : mg_G E p l e ({ frames := 2, cells := C, slots := S, locals := 53 } : Room) s m args below meth c 10 (mg_oR mg_vI w) (fX4_between_b101 w x0 x3 x4 x5 s0) w sz cells slots 101 [(0, .ref x0), (3, .int x3), (4, .int x4), (5, .int x5)] [.int s0] := by
  unfold fX4_between_b101
  refine mg_istore (pc := 101) hC [(6, .int s0), (0, .ref x0), (3, .int x3), (4, .int x4), (5, .int x5)] dX4_between_101 (by decide) rfl ?_
  refine mg_iload (pc := 103) hC 0 dX4_between_103 rfl ?_
  refine mg_iload (pc := 105) hC 3 dX4_between_105 rfl ?_
  refine mg_icmp_ne (pc := 107) hC 115 dX4_between_107 (by decide) (fun _ => ?_) (fun _ => ?_)
  · refine mg_iload (pc := 110) hC 4 dX4_between_110 rfl ?_
    refine mg_goto (pc := 112) hC 117 dX4_between_112 (by decide) ?_
    exact mg_sub (pc := 117) [1, 2, 0] (L' := [(0, .ref x0), (3, .int x3), (6, .int s0)]) rfl (gX4_between_b117 hC _ _  _ _ _ _ _ _)
  · refine mg_iload (pc := 115) hC 3 dX4_between_115 rfl ?_
    exact mg_sub (pc := 117) [1, 2, 0] (L' := [(0, .ref x0), (3, .int x3), (6, .int s0)]) rfl (gX4_between_b117 hC _ _  _ _ _ _ _ _)
def fX4_between_b83 (w : mg_H) (x0 : Nat) (x3 : Int32) (x4 : Int32) (x5 : Int32) : Option (Int32) := mg_rc w 4 x0 ((fX4_isOrHolds x0 x4 x5 w).bind fun v1 => if v1 = 0 then (fX4_between_b101 w x0 x3 x4 x5 x5) else (fX4_between_b101 w x0 x3 x4 x5 x4))
set_option maxHeartbeats 4000000 in
set_option maxRecDepth 100000 in
theorem gX4_between_b83 (hC : mg_Cx E p s m args meth c cX4_between 10 (some .int) RX4) (w : mg_H) (sz : Nat) (x0 : Nat) (x3 : Int32) (x4 : Int32) (x5 : Int32) (cells slots : Nat) : mg_G E p l e ({ frames := 2, cells := C, slots := S, locals := 53 } : Room) s m args below meth c 10 (mg_oR mg_vI w) (fX4_between_b83 w x0 x3 x4 x5) w sz cells slots 83 [(0, .ref x0), (3, .int x3), (4, .int x4), (5, .int x5)] [] := by
  unfold fX4_between_b83
  refine mg_aload_n (pc := 83) hC 0 dX4_between_83 rfl ?_
  refine mg_iload (pc := 84) hC 2 dX4_between_84 rfl ?_
  refine mg_iload (pc := 86) hC 3 dX4_between_86 rfl ?_
  refine mg_recv (ci := 4) (fun hb => ?_)
  refine mg_cRI (pc := 88) (fun r hr => mg_VR (rest := []) (av := [.int x4, .int x5]) (ci := 4) hC wdX4_isOrHolds mw_593 dX4_between_88 rfl rfl ⟨Nat.le_of_ble_eq_true rfl, Nat.le_of_ble_eq_true rfl⟩ (Nat.le_of_ble_eq_true rfl) hb (kX4_isOrHolds hr)) (fun v1 _ => ?_)
  refine mg_if_eq (pc := 91) hC 99 dX4_between_91 (by decide) (fun _ => ?_) (fun _ => ?_)
  · refine mg_iload (pc := 99) hC 3 dX4_between_99 rfl ?_
    exact mg_sub (pc := 101) [0, 1, 2, 3] (L' := [(0, .ref x0), (3, .int x3), (4, .int x4), (5, .int x5)]) rfl (gX4_between_b101 hC _ _  _ _ _ _ _ _ _)
  · refine mg_iload (pc := 94) hC 2 dX4_between_94 rfl ?_
    refine mg_goto (pc := 96) hC 101 dX4_between_96 (by decide) ?_
    exact mg_sub (pc := 101) [0, 1, 2, 3] (L' := [(0, .ref x0), (3, .int x3), (4, .int x4), (5, .int x5)]) rfl (gX4_between_b101 hC _ _  _ _ _ _ _ _ _)
def fX4_between (x0 : Nat) (x1 : Int32) (x2 : Int32) (x3 : Int32) (w : mg_H) : Option (Int32) := mg_rc w 4 x0 ((fX4_isAngle x0 x1 w).bind fun v1 => if v1 = 0 then (some (-1 : Int32)) else (mg_rc w 4 x0 ((fX4_isAngle x0 x2 w).bind fun v2 => if v2 = 0 then (some (-1 : Int32)) else ((fX4_in (x3.toInt64) (1 : Int64) (8 : Int64)).bind fun v3 => if v3 = 0 then (some (-1 : Int32)) else (mg_rc w 4 x0 ((fX4_pairOf x0 x1 w).bind fun v4 => mg_rc w 4 x0 ((fX4_pairOf x0 x2 w).bind fun v5 => if v4 = (-4 : Int32) then (some (-2 : Int32)) else (if v5 = (-4 : Int32) then (some (-2 : Int32)) else (mg_rc w 4 x0 ((fX4_isOrHolds x0 v4 v5 w).bind fun v6 => if v6 = 0 then (mg_rc w 4 x0 ((fX4_isOrHolds x0 v5 v4 w).bind fun v7 => if v7 = 0 then (some (-2 : Int32)) else (fX4_between_b83 w x0 x3 v4 v5))) else (fX4_between_b83 w x0 x3 v4 v5)))))))))))
set_option maxHeartbeats 4000000 in
set_option maxRecDepth 100000 in
theorem kX4_between {E : mg_P} {l : Launch} {x0 : Nat} {x1 : Int32} {x2 : Int32} {x3 : Int32} {w : mg_H} {sz : Nat} {o : Int32} (hf : fX4_between x0 x1 x2 x3 w = some o) : mg_C E l yX4_between cX4_between 10 (some .int) 2 53 [.ref x0, .int x1, .int x2, .int x3] w sz ((mg_oR mg_vI w) o) := by
  refine mg_meth (out := (mg_oR mg_vI w)) (by decide) (Nat.le_of_ble_eq_true rfl) hf ?_
  intro p e C S s m below meth c hC hin
  have hC : mg_Cx E p s m _ meth c cX4_between 10 (some .int) RX4 := hC
  unfold fX4_between
  refine mg_sub (pc := 0) [0, 1, 2, 3] (L' := [(0, .ref x0), (1, .int x1), (2, .int x2), (3, .int x3)]) rfl ?_
  refine mg_aload_n (pc := 0) hC 0 dX4_between_0 rfl ?_
  refine mg_iload_n (pc := 1) hC 1 dX4_between_1 rfl ?_
  refine mg_recv (ci := 4) (fun hb => ?_)
  refine mg_cRI (pc := 2) (fun r hr => mg_VR (rest := []) (av := [.int x1]) (ci := 4) hC wdX4_isAngle mw_496 dX4_between_2 rfl rfl ⟨Nat.le_of_ble_eq_true rfl, Nat.le_of_ble_eq_true rfl⟩ (Nat.le_of_ble_eq_true rfl) hb (kX4_isAngle hr)) (fun v1 _ => ?_)
  refine mg_if_eq (pc := 5) hC 28 dX4_between_5 (by decide) (fun _ => ?_) (fun _ => ?_)
  · refine mg_iconst (pc := 28) hC (-1 : Int32) dX4_between_28 (by decide) ?_
    exact mg_iret (pc := 29) hC rfl dX4_between_29
  · refine mg_aload_n (pc := 8) hC 0 dX4_between_8 rfl ?_
    refine mg_iload_n (pc := 9) hC 2 dX4_between_9 rfl ?_
    refine mg_recv (ci := 4) (fun hb => ?_)
    refine mg_cRI (pc := 10) (fun r hr => mg_VR (rest := []) (av := [.int x2]) (ci := 4) hC wdX4_isAngle mw_496 dX4_between_10 rfl rfl ⟨Nat.le_of_ble_eq_true rfl, Nat.le_of_ble_eq_true rfl⟩ (Nat.le_of_ble_eq_true rfl) hb (kX4_isAngle hr)) (fun v2 _ => ?_)
    refine mg_if_eq (pc := 13) hC 28 dX4_between_13 (by decide) (fun _ => ?_) (fun _ => ?_)
    · refine mg_iconst (pc := 28) hC (-1 : Int32) dX4_between_28 (by decide) ?_
      exact mg_iret (pc := 29) hC rfl dX4_between_29
    · refine mg_iload_n (pc := 16) hC 3 dX4_between_16 rfl ?_
      refine mg_i2l (pc := 17) hC dX4_between_17 ?_
      refine mg_lconst (pc := 18) hC (1 : Int64) dX4_between_18 (by decide) ?_
      refine mg_ldc2 (pc := 19) hC (8 : Int64) dX4_between_19 mw_563 ?_
      refine mg_cRI (pc := 22) (fun r hr => mg_S (rest := []) hC wdX4_in mw_426 mw_425 dX4_between_22 rfl rfl ⟨Nat.le_of_ble_eq_true rfl, Nat.le_of_ble_eq_true rfl⟩ (Nat.le_of_ble_eq_true rfl) (kX4_in hr)) (fun v3 _ => ?_)
      refine mg_if_ne (pc := 25) hC 30 dX4_between_25 (by decide) (fun _ => ?_) (fun _ => ?_)
      · refine mg_iconst (pc := 28) hC (-1 : Int32) dX4_between_28 (by decide) ?_
        exact mg_iret (pc := 29) hC rfl dX4_between_29
      · refine mg_aload_n (pc := 30) hC 0 dX4_between_30 rfl ?_
        refine mg_iload_n (pc := 31) hC 1 dX4_between_31 rfl ?_
        refine mg_recv (ci := 4) (fun hb => ?_)
        refine mg_cRI (pc := 32) (fun r hr => mg_VR (rest := []) (av := [.int x1]) (ci := 4) hC wdX4_pairOf mw_577 dX4_between_32 rfl rfl ⟨Nat.le_of_ble_eq_true rfl, Nat.le_of_ble_eq_true rfl⟩ (Nat.le_of_ble_eq_true rfl) hb (kX4_pairOf hr)) (fun v4 _ => ?_)
        refine mg_istore (pc := 35) hC [(4, .int v4), (0, .ref x0), (1, .int x1), (2, .int x2), (3, .int x3)] dX4_between_35 (by decide) rfl ?_
        refine mg_aload_n (pc := 37) hC 1 dX4_between_37 rfl ?_
        refine mg_iload_n (pc := 38) hC 3 dX4_between_38 rfl ?_
        refine mg_recv (ci := 4) (fun hb => ?_)
        refine mg_cRI (pc := 39) (fun r hr => mg_VR (rest := []) (av := [.int x2]) (ci := 4) hC wdX4_pairOf mw_577 dX4_between_39 rfl rfl ⟨Nat.le_of_ble_eq_true rfl, Nat.le_of_ble_eq_true rfl⟩ (Nat.le_of_ble_eq_true rfl) hb (kX4_pairOf hr)) (fun v5 _ => ?_)
        refine mg_istore (pc := 42) hC [(5, .int v5), (4, .int v4), (0, .ref x0), (1, .int x1), (2, .int x2), (3, .int x3)] dX4_between_42 (by decide) rfl ?_
        refine mg_iload (pc := 44) hC 1 dX4_between_44 rfl ?_
        refine mg_bipush (pc := 46) hC (-4 : Int32) dX4_between_46 (by decide) ?_
        refine mg_icmp_eq (pc := 48) hC 80 dX4_between_48 (by decide) (fun _ => ?_) (fun _ => ?_)
        · refine mg_bipush (pc := 80) hC (-2 : Int32) dX4_between_80 (by decide) ?_
          exact mg_iret (pc := 82) hC rfl dX4_between_82
        · refine mg_iload (pc := 51) hC 0 dX4_between_51 rfl ?_
          refine mg_bipush (pc := 53) hC (-4 : Int32) dX4_between_53 (by decide) ?_
          refine mg_icmp_eq (pc := 55) hC 80 dX4_between_55 (by decide) (fun _ => ?_) (fun _ => ?_)
          · refine mg_bipush (pc := 80) hC (-2 : Int32) dX4_between_80 (by decide) ?_
            exact mg_iret (pc := 82) hC rfl dX4_between_82
          · refine mg_aload_n (pc := 58) hC 2 dX4_between_58 rfl ?_
            refine mg_iload (pc := 59) hC 1 dX4_between_59 rfl ?_
            refine mg_iload (pc := 61) hC 0 dX4_between_61 rfl ?_
            refine mg_recv (ci := 4) (fun hb => ?_)
            refine mg_cRI (pc := 63) (fun r hr => mg_VR (rest := []) (av := [.int v4, .int v5]) (ci := 4) hC wdX4_isOrHolds mw_593 dX4_between_63 rfl rfl ⟨Nat.le_of_ble_eq_true rfl, Nat.le_of_ble_eq_true rfl⟩ (Nat.le_of_ble_eq_true rfl) hb (kX4_isOrHolds hr)) (fun v6 _ => ?_)
            refine mg_if_ne (pc := 66) hC 83 dX4_between_66 (by decide) (fun _ => ?_) (fun _ => ?_)
            · refine mg_aload_n (pc := 69) hC 2 dX4_between_69 rfl ?_
              refine mg_iload (pc := 70) hC 0 dX4_between_70 rfl ?_
              refine mg_iload (pc := 72) hC 1 dX4_between_72 rfl ?_
              refine mg_recv (ci := 4) (fun hb => ?_)
              refine mg_cRI (pc := 74) (fun r hr => mg_VR (rest := []) (av := [.int v5, .int v4]) (ci := 4) hC wdX4_isOrHolds mw_593 dX4_between_74 rfl rfl ⟨Nat.le_of_ble_eq_true rfl, Nat.le_of_ble_eq_true rfl⟩ (Nat.le_of_ble_eq_true rfl) hb (kX4_isOrHolds hr)) (fun v7 _ => ?_)
              refine mg_if_ne (pc := 77) hC 83 dX4_between_77 (by decide) (fun _ => ?_) (fun _ => ?_)
              · refine mg_bipush (pc := 80) hC (-2 : Int32) dX4_between_80 (by decide) ?_
                exact mg_iret (pc := 82) hC rfl dX4_between_82
              · exact mg_sub (pc := 83) [2, 5, 1, 0] (L' := [(0, .ref x0), (3, .int x3), (4, .int v4), (5, .int v5)]) rfl (gX4_between_b83 hC _ _  _ _ _ _ _ _)
            · exact mg_sub (pc := 83) [2, 5, 1, 0] (L' := [(0, .ref x0), (3, .int x3), (4, .int v4), (5, .int v5)]) rfl (gX4_between_b83 hC _ _  _ _ _ _ _ _)
theorem wdX4_between : mg_WdV 4 yX4_between cX4_between 10 (some .int) 3 := ⟨⟨mw_604, mw_2, by decide, by decide, by decide +kernel⟩, _, rfl, mw_602, mw_603⟩
def fX4_within (x0 : Nat) (x1 : Int32) (x2 : Int32) (w : mg_H) : Option (Int64) := mg_gN w 4 x0 4 fun v1 => (mg_ldI w 0 v1 x1).bind fun v2 => (fX4_whole v2).bind fun v3 => mg_gN w 4 x0 5 fun v4 => (mg_ldL w v4 x1).bind fun v5 => (fX4_whole x2).bind fun v6 => if v3 = 0 then none else (mg_gN w 4 x0 6 fun v7 => (mg_ldL w v7 x1).bind fun v8 => (fX4_whole x2).bind fun v9 => if v3 = 0 then none else (some ((((v8 * v9) / v3) - ((((v5 * v6) + v3) - (1 : Int64)) / v3)) + (1 : Int64))))
set_option maxHeartbeats 4000000 in
set_option maxRecDepth 100000 in
theorem kX4_within {E : mg_P} {l : Launch} {x0 : Nat} {x1 : Int32} {x2 : Int32} {w : mg_H} {sz : Nat} {o : Int64} (hf : fX4_within x0 x1 x2 w = some o) : mg_C E l yX4_within cX4_within 9 (some .long) 1 20 [.ref x0, .int x1, .int x2] w sz ((mg_oR mg_vL w) o) := by
  refine mg_meth (out := (mg_oR mg_vL w)) (by decide) (Nat.le_of_ble_eq_true rfl) hf ?_
  intro p e C S s m below meth c hC hin
  have hC : mg_Cx E p s m _ meth c cX4_within 9 (some .long) RX4 := hC
  unfold fX4_within
  refine mg_sub (pc := 0) [0, 1, 2] (L' := [(0, .ref x0), (1, .int x1), (2, .int x2)]) rfl ?_
  refine mg_aload_n (pc := 0) hC 0 dX4_within_0 rfl ?_
  refine mg_getNN (pc := 1) (ci := 4) (k := 4) hC mi_4 rfl (by decide) mw_449 dX4_within_1 (fun v1 _ => ?_)
  refine mg_iload_n (pc := 4) hC 1 dX4_within_4 rfl ?_
  refine mg_iald (pc := 5) hC dX4_within_5 (fun v2 _ => ?_)
  refine mg_cRL (pc := 6) (fun r hr => mg_S (rest := []) hC wdX4_whole mw_423 mw_422 dX4_within_6 rfl rfl ⟨Nat.le_of_ble_eq_true rfl, Nat.le_of_ble_eq_true rfl⟩ (Nat.le_of_ble_eq_true rfl) (kX4_whole hr)) (fun v3 _ => ?_)
  refine mg_lstore_n (pc := 9) hC [(3, .long v3), (0, .ref x0), (1, .int x1), (2, .int x2)] dX4_within_9 (by decide) rfl ?_
  refine mg_aload_n (pc := 10) hC 1 dX4_within_10 rfl ?_
  refine mg_getNN (pc := 11) (ci := 4) (k := 5) hC mi_4 rfl (by decide) mw_450 dX4_within_11 (fun v4 _ => ?_)
  refine mg_iload_n (pc := 14) hC 2 dX4_within_14 rfl ?_
  refine mg_lald (pc := 15) hC dX4_within_15 (fun v5 _ => ?_)
  refine mg_iload_n (pc := 16) hC 3 dX4_within_16 rfl ?_
  refine mg_cRL (pc := 17) (fun r hr => mg_S (rest := [.long v5]) hC wdX4_whole mw_423 mw_422 dX4_within_17 rfl rfl ⟨Nat.le_of_ble_eq_true rfl, Nat.le_of_ble_eq_true rfl⟩ (Nat.le_of_ble_eq_true rfl) (kX4_whole hr)) (fun v6 _ => ?_)
  refine mg_lmul (pc := 20) hC dX4_within_20 ?_
  refine mg_lload_n (pc := 21) hC 0 dX4_within_21 rfl ?_
  refine mg_ladd (pc := 22) hC dX4_within_22 ?_
  refine mg_lconst (pc := 23) hC (1 : Int64) dX4_within_23 (by decide) ?_
  refine mg_lsub (pc := 24) hC dX4_within_24 ?_
  refine mg_lload_n (pc := 25) hC 0 dX4_within_25 rfl ?_
  refine mg_ldiv (pc := 26) hC dX4_within_26 ?_
  refine mg_lstore (pc := 27) hC [(5, .long ((((v5 * v6) + v3) - (1 : Int64)) / v3)), (3, .long v3), (0, .ref x0), (1, .int x1), (2, .int x2)] dX4_within_27 (by decide) rfl ?_
  refine mg_aload_n (pc := 29) hC 2 dX4_within_29 rfl ?_
  refine mg_getNN (pc := 30) (ci := 4) (k := 6) hC mi_4 rfl (by decide) mw_451 dX4_within_30 (fun v7 _ => ?_)
  refine mg_iload_n (pc := 33) hC 3 dX4_within_33 rfl ?_
  refine mg_lald (pc := 34) hC dX4_within_34 (fun v8 _ => ?_)
  refine mg_iload_n (pc := 35) hC 4 dX4_within_35 rfl ?_
  refine mg_cRL (pc := 36) (fun r hr => mg_S (rest := [.long v8]) hC wdX4_whole mw_423 mw_422 dX4_within_36 rfl rfl ⟨Nat.le_of_ble_eq_true rfl, Nat.le_of_ble_eq_true rfl⟩ (Nat.le_of_ble_eq_true rfl) (kX4_whole hr)) (fun v9 _ => ?_)
  refine mg_lmul (pc := 39) hC dX4_within_39 ?_
  refine mg_lload_n (pc := 40) hC 1 dX4_within_40 rfl ?_
  refine mg_ldiv (pc := 41) hC dX4_within_41 ?_
  refine mg_lstore (pc := 42) hC [(7, .long ((v8 * v9) / v3)), (5, .long ((((v5 * v6) + v3) - (1 : Int64)) / v3)), (3, .long v3), (0, .ref x0), (1, .int x1), (2, .int x2)] dX4_within_42 (by decide) rfl ?_
  refine mg_lload (pc := 44) hC 0 dX4_within_44 rfl ?_
  refine mg_lload (pc := 46) hC 1 dX4_within_46 rfl ?_
  refine mg_lsub (pc := 48) hC dX4_within_48 ?_
  refine mg_lconst (pc := 49) hC (1 : Int64) dX4_within_49 (by decide) ?_
  refine mg_ladd (pc := 50) hC dX4_within_50 ?_
  exact mg_lret (pc := 51) hC rfl dX4_within_51
theorem wdX4_within : mg_WdV 4 yX4_within cX4_within 9 (some .long) 2 := ⟨⟨mw_612, mw_2, by decide, by decide, by decide +kernel⟩, _, rfl, mw_611, mw_p32⟩
def fX4_wide_b78 (w : mg_H) (r43 : Nat → Int32 → Int32 → Int64 → Int32 → Option (Int32)) (x0 : Nat) (x2 : Int32) (x3 : Int32) (x6 : Int32) (s0 : Int64) (s1 : Int64) : Option (Int32) := r43 x0 x2 x3 (s1 + s0) (x6 + (1 : Int32))
set_option maxHeartbeats 4000000 in
set_option maxRecDepth 100000 in
theorem gX4_wide_b78 (hC : mg_Cx E p s m args meth c cX4_wide 7 (some .int) RX4) (w : mg_H) (sz : Nat) (r43 : Nat → Int32 → Int32 → Int64 → Int32 → Option (Int32)) (hr43 : ∀ (z0 : Nat) (z2 : Int32) (z3 : Int32) (z4 : Int64) (z6 : Int32) (cells slots : Nat), mg_G E p l e ({ frames := 2, cells := C, slots := S, locals := 51 } : Room) s m args below meth c 7 (mg_oR mg_vI w) (r43 z0 z2 z3 z4 z6) w sz cells slots 43 [(0, .ref z0), (2, .int z2), (3, .int z3), (4, .long z4), (6, .int z6)] []) (x0 : Nat) (x2 : Int32) (x3 : Int32) (x6 : Int32) (s0 : Int64) (s1 : Int64) (cells slots : Nat) : mg_G E p l e ({ frames := 2, cells := C, slots := S, locals := 51 } : Room) s m args below meth c 7 (mg_oR mg_vI w) (fX4_wide_b78 w r43 x0 x2 x3 x6 s0 s1) w sz cells slots 78 [(0, .ref x0), (2, .int x2), (3, .int x3), (6, .int x6)] [.long s0, .long s1] := by
  unfold fX4_wide_b78
  refine mg_ladd (pc := 78) hC dX4_wide_78 ?_
  refine mg_lstore (pc := 79) hC [(4, .long (s1 + s0)), (0, .ref x0), (2, .int x2), (3, .int x3), (6, .int x6)] dX4_wide_79 (by decide) rfl ?_
  refine mg_iinc (pc := 81) hC 4 (x6 + (1 : Int32)) [(6, .int (x6 + (1 : Int32))), (4, .long (s1 + s0)), (0, .ref x0), (2, .int x2), (3, .int x3)] dX4_wide_81 rfl rfl (by decide) rfl ?_
  refine mg_goto (pc := 84) hC 43 dX4_wide_84 (by decide) ?_
  exact mg_sub (pc := 43) [2, 3, 4, 1, 0] (L' := [(0, .ref x0), (2, .int x2), (3, .int x3), (4, .long (s1 + s0)), (6, .int (x6 + (1 : Int32)))]) rfl (hr43 _ _ _ _ _ _ _)
def fX4_wide_b43 (w : mg_H) : Nat → Nat → Int32 → Int32 → Int64 → Int32 → Option (Int32)
  | 0, _, _, _, _, _ => none
  | n + 1, x0, x2, x3, x4, x6 => if x2 < x6 then (some (x4.toInt32)) else (if x6 = 0 then none else (if (x2 - x2 / x6 * x6) = 0 then (if x6 = 0 then none else ((fX4_moebius (x2 / x6)).bind fun v1 => mg_rc w 4 x0 ((fX4_within x0 x3 x6 w).bind fun v2 => fX4_wide_b78 w (fX4_wide_b43 w n) x0 x2 x3 x6 ((v1.toInt64) * v2) x4))) else (fX4_wide_b78 w (fX4_wide_b43 w n) x0 x2 x3 x6 (0 : Int64) x4)))
set_option maxHeartbeats 4000000 in
set_option maxRecDepth 100000 in
theorem gX4_wide_b43 (hC : mg_Cx E p s m args meth c cX4_wide 7 (some .int) RX4) (w : mg_H) (sz : Nat) : ∀ (n : Nat) (x0 : Nat) (x2 : Int32) (x3 : Int32) (x4 : Int64) (x6 : Int32) (cells slots : Nat), mg_G E p l e ({ frames := 2, cells := C, slots := S, locals := 51 } : Room) s m args below meth c 7 (mg_oR mg_vI w) (fX4_wide_b43 w n x0 x2 x3 x4 x6) w sz cells slots 43 [(0, .ref x0), (2, .int x2), (3, .int x3), (4, .long x4), (6, .int x6)] [] := by
  intro n
  induction n with
  | zero => intros; exact fun o hf => by rw [fX4_wide_b43] at hf; cases hf
  | succ n ih =>
    intro x0 x2 x3 x4 x6 cells slots
    rw [fX4_wide_b43]
    refine mg_iload (pc := 43) hC 4 dX4_wide_43 rfl ?_
    refine mg_iload_n (pc := 45) hC 1 dX4_wide_45 rfl ?_
    refine mg_icmp_gt (pc := 46) hC 87 dX4_wide_46 (by decide) (fun _ => ?_) (fun _ => ?_)
    · refine mg_lload (pc := 87) hC 3 dX4_wide_87 rfl ?_
      refine mg_l2i (pc := 89) hC dX4_wide_89 ?_
      exact mg_iret (pc := 90) hC rfl dX4_wide_90
    · refine mg_lload (pc := 49) hC 3 dX4_wide_49 rfl ?_
      refine mg_iload_n (pc := 51) hC 1 dX4_wide_51 rfl ?_
      refine mg_iload (pc := 52) hC 4 dX4_wide_52 rfl ?_
      refine mg_irem (pc := 54) hC dX4_wide_54 ?_
      refine mg_if_ne (pc := 55) hC 77 dX4_wide_55 (by decide) (fun _ => ?_) (fun _ => ?_)
      · refine mg_iload_n (pc := 58) hC 1 dX4_wide_58 rfl ?_
        refine mg_iload (pc := 59) hC 4 dX4_wide_59 rfl ?_
        refine mg_idiv (pc := 61) hC dX4_wide_61 ?_
        refine mg_cRI (pc := 62) (fun r hr => mg_S (rest := [.long x4]) hC wdX4_moebius mw_518 mw_517 dX4_wide_62 rfl rfl ⟨Nat.le_of_ble_eq_true rfl, Nat.le_of_ble_eq_true rfl⟩ (Nat.le_of_ble_eq_true rfl) (kX4_moebius hr)) (fun v1 _ => ?_)
        refine mg_i2l (pc := 65) hC dX4_wide_65 ?_
        refine mg_aload_n (pc := 66) hC 0 dX4_wide_66 rfl ?_
        refine mg_iload_n (pc := 67) hC 2 dX4_wide_67 rfl ?_
        refine mg_iload (pc := 68) hC 4 dX4_wide_68 rfl ?_
        refine mg_recv (ci := 4) (fun hb => ?_)
        refine mg_cRL (pc := 70) (fun r hr => mg_VR (rest := [.long (v1.toInt64), .long x4]) (av := [.int x3, .int x6]) (ci := 4) hC wdX4_within mw_609 dX4_wide_70 rfl rfl ⟨Nat.le_of_ble_eq_true rfl, Nat.le_of_ble_eq_true rfl⟩ (Nat.le_of_ble_eq_true rfl) hb (kX4_within hr)) (fun v2 _ => ?_)
        refine mg_lmul (pc := 73) hC dX4_wide_73 ?_
        refine mg_goto (pc := 74) hC 78 dX4_wide_74 (by decide) ?_
        exact mg_sub (pc := 78) [0, 1, 2, 4] (L' := [(0, .ref x0), (2, .int x2), (3, .int x3), (6, .int x6)]) rfl (gX4_wide_b78 hC _ _ _ ih _ _ _ _ _ _ _ _)
      · refine mg_lconst (pc := 77) hC (0 : Int64) dX4_wide_77 (by decide) ?_
        exact mg_sub (pc := 78) [0, 1, 2, 4] (L' := [(0, .ref x0), (2, .int x2), (3, .int x3), (6, .int x6)]) rfl (gX4_wide_b78 hC _ _ _ ih _ _ _ _ _ _ _ _)
def fX4_wide (x0 : Nat) (x1 : Int32) (x2 : Int32) (w : mg_H) : Option (Int32) := mg_rc w 4 x0 ((fX4_isAngle x0 x1 w).bind fun v1 => if v1 = 0 then (some (-1 : Int32)) else ((fX4_in (x2.toInt64) (1 : Int64) (20 : Int64)).bind fun v2 => if v2 = 0 then (some (-1 : Int32)) else (mg_rc w 4 x0 ((fX4_pairOf x0 x1 w).bind fun v3 => if v3 = (-4 : Int32) then (some (-2 : Int32)) else (fX4_wide_b43 w mg_N x0 x2 v3 (0 : Int64) (1 : Int32))))))
set_option maxHeartbeats 4000000 in
set_option maxRecDepth 100000 in
theorem kX4_wide {E : mg_P} {l : Launch} {x0 : Nat} {x1 : Int32} {x2 : Int32} {w : mg_H} {sz : Nat} {o : Int32} (hf : fX4_wide x0 x1 x2 w = some o) : mg_C E l yX4_wide cX4_wide 7 (some .int) 2 51 [.ref x0, .int x1, .int x2] w sz ((mg_oR mg_vI w) o) := by
  refine mg_meth (out := (mg_oR mg_vI w)) (by decide) (Nat.le_of_ble_eq_true rfl) hf ?_
  intro p e C S s m below meth c hC hin
  have hC : mg_Cx E p s m _ meth c cX4_wide 7 (some .int) RX4 := hC
  unfold fX4_wide
  refine mg_sub (pc := 0) [0, 1, 2] (L' := [(0, .ref x0), (1, .int x1), (2, .int x2)]) rfl ?_
  refine mg_aload_n (pc := 0) hC 0 dX4_wide_0 rfl ?_
  refine mg_iload_n (pc := 1) hC 1 dX4_wide_1 rfl ?_
  refine mg_recv (ci := 4) (fun hb => ?_)
  refine mg_cRI (pc := 2) (fun r hr => mg_VR (rest := []) (av := [.int x1]) (ci := 4) hC wdX4_isAngle mw_496 dX4_wide_2 rfl rfl ⟨Nat.le_of_ble_eq_true rfl, Nat.le_of_ble_eq_true rfl⟩ (Nat.le_of_ble_eq_true rfl) hb (kX4_isAngle hr)) (fun v1 _ => ?_)
  refine mg_if_eq (pc := 5) hC 20 dX4_wide_5 (by decide) (fun _ => ?_) (fun _ => ?_)
  · refine mg_iconst (pc := 20) hC (-1 : Int32) dX4_wide_20 (by decide) ?_
    exact mg_iret (pc := 21) hC rfl dX4_wide_21
  · refine mg_iload_n (pc := 8) hC 2 dX4_wide_8 rfl ?_
    refine mg_i2l (pc := 9) hC dX4_wide_9 ?_
    refine mg_lconst (pc := 10) hC (1 : Int64) dX4_wide_10 (by decide) ?_
    refine mg_ldc2 (pc := 11) hC (20 : Int64) dX4_wide_11 mw_516 ?_
    refine mg_cRI (pc := 14) (fun r hr => mg_S (rest := []) hC wdX4_in mw_426 mw_425 dX4_wide_14 rfl rfl ⟨Nat.le_of_ble_eq_true rfl, Nat.le_of_ble_eq_true rfl⟩ (Nat.le_of_ble_eq_true rfl) (kX4_in hr)) (fun v2 _ => ?_)
    refine mg_if_ne (pc := 17) hC 22 dX4_wide_17 (by decide) (fun _ => ?_) (fun _ => ?_)
    · refine mg_iconst (pc := 20) hC (-1 : Int32) dX4_wide_20 (by decide) ?_
      exact mg_iret (pc := 21) hC rfl dX4_wide_21
    · refine mg_aload_n (pc := 22) hC 0 dX4_wide_22 rfl ?_
      refine mg_iload_n (pc := 23) hC 1 dX4_wide_23 rfl ?_
      refine mg_recv (ci := 4) (fun hb => ?_)
      refine mg_cRI (pc := 24) (fun r hr => mg_VR (rest := []) (av := [.int x1]) (ci := 4) hC wdX4_pairOf mw_577 dX4_wide_24 rfl rfl ⟨Nat.le_of_ble_eq_true rfl, Nat.le_of_ble_eq_true rfl⟩ (Nat.le_of_ble_eq_true rfl) hb (kX4_pairOf hr)) (fun v3 _ => ?_)
      refine mg_istore_n (pc := 27) hC [(3, .int v3), (0, .ref x0), (1, .int x1), (2, .int x2)] dX4_wide_27 (by decide) rfl ?_
      refine mg_iload_n (pc := 28) hC 0 dX4_wide_28 rfl ?_
      refine mg_bipush (pc := 29) hC (-4 : Int32) dX4_wide_29 (by decide) ?_
      refine mg_icmp_ne (pc := 31) hC 37 dX4_wide_31 (by decide) (fun _ => ?_) (fun _ => ?_)
      · refine mg_bipush (pc := 34) hC (-2 : Int32) dX4_wide_34 (by decide) ?_
        exact mg_iret (pc := 36) hC rfl dX4_wide_36
      · refine mg_lconst (pc := 37) hC (0 : Int64) dX4_wide_37 (by decide) ?_
        refine mg_lstore (pc := 38) hC [(4, .long (0 : Int64)), (3, .int v3), (0, .ref x0), (1, .int x1), (2, .int x2)] dX4_wide_38 (by decide) rfl ?_
        refine mg_iconst (pc := 40) hC (1 : Int32) dX4_wide_40 (by decide) ?_
        refine mg_istore (pc := 41) hC [(6, .int (1 : Int32)), (4, .long (0 : Int64)), (3, .int v3), (0, .ref x0), (1, .int x1), (2, .int x2)] dX4_wide_41 (by decide) rfl ?_
        exact mg_sub (pc := 43) [3, 5, 2, 1, 0] (L' := [(0, .ref x0), (2, .int x2), (3, .int v3), (4, .long (0 : Int64)), (6, .int (1 : Int32))]) rfl (gX4_wide_b43 hC _ _  _ _ _ _ _ _ _ _)
theorem wdX4_wide : mg_WdV 4 yX4_wide cX4_wide 7 (some .int) 2 := ⟨⟨mw_608, mw_2, by decide, by decide, by decide +kernel⟩, _, rfl, mw_606, mw_607⟩
def fX4_digitOf (x0 : Nat) (x1 : Int32) (x2 : Int32) (w : mg_H) : Option (Int32) := mg_gN w 4 x0 1 fun v1 => (mg_ldL w v1 x1).bind fun v2 => mg_gN w 4 x0 2 fun v3 => (mg_ldL w v3 x1).bind fun v4 => (fX4_after v2 v4 x2).bind fun v5 => mg_gN w 4 x0 2 fun v6 => (mg_ldL w v6 x1).bind fun v7 => if (lg_cmp ((2 : Int64) * v5) v7) < 0 then (some (0 : Int32)) else (some (1 : Int32))
set_option maxHeartbeats 4000000 in
set_option maxRecDepth 100000 in
theorem kX4_digitOf {E : mg_P} {l : Launch} {x0 : Nat} {x1 : Int32} {x2 : Int32} {w : mg_H} {sz : Nat} {o : Int32} (hf : fX4_digitOf x0 x1 x2 w = some o) : mg_C E l yX4_digitOf cX4_digitOf 3 (some .int) 1 27 [.ref x0, .int x1, .int x2] w sz ((mg_oR mg_vI w) o) := by
  refine mg_meth (out := (mg_oR mg_vI w)) (by decide) (Nat.le_of_ble_eq_true rfl) hf ?_
  intro p e C S s m below meth c hC hin
  have hC : mg_Cx E p s m _ meth c cX4_digitOf 3 (some .int) RX4 := hC
  unfold fX4_digitOf
  refine mg_sub (pc := 0) [0, 1, 2] (L' := [(0, .ref x0), (1, .int x1), (2, .int x2)]) rfl ?_
  refine mg_ldc2 (pc := 0) hC (2 : Int64) dX4_digitOf_0 mw_437 ?_
  refine mg_aload_n (pc := 3) hC 0 dX4_digitOf_3 rfl ?_
  refine mg_getNN (pc := 4) (ci := 4) (k := 1) hC mi_4 rfl (by decide) mw_446 dX4_digitOf_4 (fun v1 _ => ?_)
  refine mg_iload_n (pc := 7) hC 1 dX4_digitOf_7 rfl ?_
  refine mg_lald (pc := 8) hC dX4_digitOf_8 (fun v2 _ => ?_)
  refine mg_aload_n (pc := 9) hC 0 dX4_digitOf_9 rfl ?_
  refine mg_getNN (pc := 10) (ci := 4) (k := 2) hC mi_4 rfl (by decide) mw_447 dX4_digitOf_10 (fun v3 _ => ?_)
  refine mg_iload_n (pc := 13) hC 1 dX4_digitOf_13 rfl ?_
  refine mg_lald (pc := 14) hC dX4_digitOf_14 (fun v4 _ => ?_)
  refine mg_iload_n (pc := 15) hC 2 dX4_digitOf_15 rfl ?_
  refine mg_cRL (pc := 16) (fun r hr => mg_S (rest := [.long (2 : Int64)]) hC wdX4_after mw_510 mw_509 dX4_digitOf_16 rfl rfl ⟨Nat.le_of_ble_eq_true rfl, Nat.le_of_ble_eq_true rfl⟩ (Nat.le_of_ble_eq_true rfl) (kX4_after hr)) (fun v5 _ => ?_)
  refine mg_lmul (pc := 19) hC dX4_digitOf_19 ?_
  refine mg_aload_n (pc := 20) hC 0 dX4_digitOf_20 rfl ?_
  refine mg_getNN (pc := 21) (ci := 4) (k := 2) hC mi_4 rfl (by decide) mw_447 dX4_digitOf_21 (fun v6 _ => ?_)
  refine mg_iload_n (pc := 24) hC 1 dX4_digitOf_24 rfl ?_
  refine mg_lald (pc := 25) hC dX4_digitOf_25 (fun v7 _ => ?_)
  refine mg_lcmp (pc := 26) hC dX4_digitOf_26 ?_
  refine mg_if_lt (pc := 27) hC 34 dX4_digitOf_27 (by decide) (fun _ => ?_) (fun _ => ?_)
  · refine mg_iconst (pc := 34) hC (0 : Int32) dX4_digitOf_34 (by decide) ?_
    exact mg_iret (pc := 35) hC rfl dX4_digitOf_35
  · refine mg_iconst (pc := 30) hC (1 : Int32) dX4_digitOf_30 (by decide) ?_
    refine mg_goto (pc := 31) hC 35 dX4_digitOf_31 (by decide) ?_
    exact mg_iret (pc := 35) hC rfl dX4_digitOf_35
theorem wdX4_digitOf : mg_WdV 4 yX4_digitOf cX4_digitOf 3 (some .int) 2 := ⟨⟨mw_620, mw_2, by decide, by decide, by decide +kernel⟩, _, rfl, mw_619, mw_p33⟩
def fX4_digit (x0 : Nat) (x1 : Int32) (x2 : Int32) (w : mg_H) : Option (Int32) := mg_rc w 4 x0 ((fX4_isAngle x0 x1 w).bind fun v1 => if v1 = 0 then (some (-1 : Int32)) else ((fX4_in (x2.toInt64) (0 : Int64) (100 : Int64)).bind fun v2 => if v2 = 0 then (some (-1 : Int32)) else (mg_rc w 4 x0 ((fX4_isBack x0 x1 w).bind fun v3 => if v3 = 0 then (some (-2 : Int32)) else (mg_rc w 4 x0 ((fX4_digitOf x0 x1 x2 w).bind fun v4 => some v4))))))
set_option maxHeartbeats 4000000 in
set_option maxRecDepth 100000 in
theorem kX4_digit {E : mg_P} {l : Launch} {x0 : Nat} {x1 : Int32} {x2 : Int32} {w : mg_H} {sz : Nat} {o : Int32} (hf : fX4_digit x0 x1 x2 w = some o) : mg_C E l yX4_digit cX4_digit 3 (some .int) 2 49 [.ref x0, .int x1, .int x2] w sz ((mg_oR mg_vI w) o) := by
  refine mg_meth (out := (mg_oR mg_vI w)) (by decide) (Nat.le_of_ble_eq_true rfl) hf ?_
  intro p e C S s m below meth c hC hin
  have hC : mg_Cx E p s m _ meth c cX4_digit 3 (some .int) RX4 := hC
  unfold fX4_digit
  refine mg_sub (pc := 0) [0, 1, 2] (L' := [(0, .ref x0), (1, .int x1), (2, .int x2)]) rfl ?_
  refine mg_aload_n (pc := 0) hC 0 dX4_digit_0 rfl ?_
  refine mg_iload_n (pc := 1) hC 1 dX4_digit_1 rfl ?_
  refine mg_recv (ci := 4) (fun hb => ?_)
  refine mg_cRI (pc := 2) (fun r hr => mg_VR (rest := []) (av := [.int x1]) (ci := 4) hC wdX4_isAngle mw_496 dX4_digit_2 rfl rfl ⟨Nat.le_of_ble_eq_true rfl, Nat.le_of_ble_eq_true rfl⟩ (Nat.le_of_ble_eq_true rfl) hb (kX4_isAngle hr)) (fun v1 _ => ?_)
  refine mg_if_eq (pc := 5) hC 20 dX4_digit_5 (by decide) (fun _ => ?_) (fun _ => ?_)
  · refine mg_iconst (pc := 20) hC (-1 : Int32) dX4_digit_20 (by decide) ?_
    exact mg_iret (pc := 21) hC rfl dX4_digit_21
  · refine mg_iload_n (pc := 8) hC 2 dX4_digit_8 rfl ?_
    refine mg_i2l (pc := 9) hC dX4_digit_9 ?_
    refine mg_lconst (pc := 10) hC (0 : Int64) dX4_digit_10 (by decide) ?_
    refine mg_ldc2 (pc := 11) hC (100 : Int64) dX4_digit_11 mw_508 ?_
    refine mg_cRI (pc := 14) (fun r hr => mg_S (rest := []) hC wdX4_in mw_426 mw_425 dX4_digit_14 rfl rfl ⟨Nat.le_of_ble_eq_true rfl, Nat.le_of_ble_eq_true rfl⟩ (Nat.le_of_ble_eq_true rfl) (kX4_in hr)) (fun v2 _ => ?_)
    refine mg_if_ne (pc := 17) hC 22 dX4_digit_17 (by decide) (fun _ => ?_) (fun _ => ?_)
    · refine mg_iconst (pc := 20) hC (-1 : Int32) dX4_digit_20 (by decide) ?_
      exact mg_iret (pc := 21) hC rfl dX4_digit_21
    · refine mg_aload_n (pc := 22) hC 0 dX4_digit_22 rfl ?_
      refine mg_iload_n (pc := 23) hC 1 dX4_digit_23 rfl ?_
      refine mg_recv (ci := 4) (fun hb => ?_)
      refine mg_cRI (pc := 24) (fun r hr => mg_VR (rest := []) (av := [.int x1]) (ci := 4) hC wdX4_isBack mw_535 dX4_digit_24 rfl rfl ⟨Nat.le_of_ble_eq_true rfl, Nat.le_of_ble_eq_true rfl⟩ (Nat.le_of_ble_eq_true rfl) hb (kX4_isBack hr)) (fun v3 _ => ?_)
      refine mg_if_eq (pc := 27) hC 39 dX4_digit_27 (by decide) (fun _ => ?_) (fun _ => ?_)
      · refine mg_bipush (pc := 39) hC (-2 : Int32) dX4_digit_39 (by decide) ?_
        exact mg_iret (pc := 41) hC rfl dX4_digit_41
      · refine mg_aload_n (pc := 30) hC 0 dX4_digit_30 rfl ?_
        refine mg_iload_n (pc := 31) hC 1 dX4_digit_31 rfl ?_
        refine mg_iload_n (pc := 32) hC 2 dX4_digit_32 rfl ?_
        refine mg_recv (ci := 4) (fun hb => ?_)
        refine mg_cRI (pc := 33) (fun r hr => mg_VR (rest := []) (av := [.int x1, .int x2]) (ci := 4) hC wdX4_digitOf mw_617 dX4_digit_33 rfl rfl ⟨Nat.le_of_ble_eq_true rfl, Nat.le_of_ble_eq_true rfl⟩ (Nat.le_of_ble_eq_true rfl) hb (kX4_digitOf hr)) (fun v4 _ => ?_)
        refine mg_goto (pc := 36) hC 41 dX4_digit_36 (by decide) ?_
        exact mg_iret (pc := 41) hC rfl dX4_digit_41
theorem wdX4_digit : mg_WdV 4 yX4_digit cX4_digit 3 (some .int) 2 := ⟨⟨mw_616, mw_2, by decide, by decide, by decide +kernel⟩, _, rfl, mw_614, mw_615⟩
def fX4_canPut (x0 : Nat) (x1 : Int32) (x2 : Int32) (w : mg_H) : Option (Int32) := mg_rc w 4 x0 ((fX4_isBack x0 x2 w).bind fun v1 => if v1 = 0 then (some (0 : Int32)) else (mg_rc w 4 x0 ((fX4_pairOf x0 x1 w).bind fun v2 => if v2 = (-4 : Int32) then (some (0 : Int32)) else (mg_gN w 4 x0 1 fun v3 => (mg_ldL w v3 x1).bind fun v4 => if (lg_cmp v4 (0 : Int64)) = 0 then (some (0 : Int32)) else (some (1 : Int32))))))
set_option maxHeartbeats 4000000 in
set_option maxRecDepth 100000 in
theorem kX4_canPut {E : mg_P} {l : Launch} {x0 : Nat} {x1 : Int32} {x2 : Int32} {w : mg_H} {sz : Nat} {o : Int32} (hf : fX4_canPut x0 x1 x2 w = some o) : mg_C E l yX4_canPut cX4_canPut 3 (some .boolean) 2 51 [.ref x0, .int x1, .int x2] w sz ((mg_oR mg_vI w) o) := by
  refine mg_meth (out := (mg_oR mg_vI w)) (by decide) (Nat.le_of_ble_eq_true rfl) hf ?_
  intro p e C S s m below meth c hC hin
  have hC : mg_Cx E p s m _ meth c cX4_canPut 3 (some .boolean) RX4 := hC
  unfold fX4_canPut
  refine mg_sub (pc := 0) [0, 1, 2] (L' := [(0, .ref x0), (1, .int x1), (2, .int x2)]) rfl ?_
  refine mg_aload_n (pc := 0) hC 0 dX4_canPut_0 rfl ?_
  refine mg_iload_n (pc := 1) hC 2 dX4_canPut_1 rfl ?_
  refine mg_recv (ci := 4) (fun hb => ?_)
  refine mg_cRI (pc := 2) (fun r hr => mg_VR (rest := []) (av := [.int x2]) (ci := 4) hC wdX4_isBack mw_535 dX4_canPut_2 rfl rfl ⟨Nat.le_of_ble_eq_true rfl, Nat.le_of_ble_eq_true rfl⟩ (Nat.le_of_ble_eq_true rfl) hb (kX4_isBack hr)) (fun v1 _ => ?_)
  refine mg_if_eq (pc := 5) hC 33 dX4_canPut_5 (by decide) (fun _ => ?_) (fun _ => ?_)
  · refine mg_iconst (pc := 33) hC (0 : Int32) dX4_canPut_33 (by decide) ?_
    exact mg_zretC (pc := 34) hC (by decide) rfl dX4_canPut_34
  · refine mg_aload_n (pc := 8) hC 0 dX4_canPut_8 rfl ?_
    refine mg_iload_n (pc := 9) hC 1 dX4_canPut_9 rfl ?_
    refine mg_recv (ci := 4) (fun hb => ?_)
    refine mg_cRI (pc := 10) (fun r hr => mg_VR (rest := []) (av := [.int x1]) (ci := 4) hC wdX4_pairOf mw_577 dX4_canPut_10 rfl rfl ⟨Nat.le_of_ble_eq_true rfl, Nat.le_of_ble_eq_true rfl⟩ (Nat.le_of_ble_eq_true rfl) hb (kX4_pairOf hr)) (fun v2 _ => ?_)
    refine mg_bipush (pc := 13) hC (-4 : Int32) dX4_canPut_13 (by decide) ?_
    refine mg_icmp_eq (pc := 15) hC 33 dX4_canPut_15 (by decide) (fun _ => ?_) (fun _ => ?_)
    · refine mg_iconst (pc := 33) hC (0 : Int32) dX4_canPut_33 (by decide) ?_
      exact mg_zretC (pc := 34) hC (by decide) rfl dX4_canPut_34
    · refine mg_aload_n (pc := 18) hC 0 dX4_canPut_18 rfl ?_
      refine mg_getNN (pc := 19) (ci := 4) (k := 1) hC mi_4 rfl (by decide) mw_446 dX4_canPut_19 (fun v3 _ => ?_)
      refine mg_iload_n (pc := 22) hC 1 dX4_canPut_22 rfl ?_
      refine mg_lald (pc := 23) hC dX4_canPut_23 (fun v4 _ => ?_)
      refine mg_lconst (pc := 24) hC (0 : Int64) dX4_canPut_24 (by decide) ?_
      refine mg_lcmp (pc := 25) hC dX4_canPut_25 ?_
      refine mg_if_eq (pc := 26) hC 33 dX4_canPut_26 (by decide) (fun _ => ?_) (fun _ => ?_)
      · refine mg_iconst (pc := 33) hC (0 : Int32) dX4_canPut_33 (by decide) ?_
        exact mg_zretC (pc := 34) hC (by decide) rfl dX4_canPut_34
      · refine mg_iconst (pc := 29) hC (1 : Int32) dX4_canPut_29 (by decide) ?_
        refine mg_goto (pc := 30) hC 34 dX4_canPut_30 (by decide) ?_
        exact mg_zretC (pc := 34) hC (by decide) rfl dX4_canPut_34
theorem wdX4_canPut : mg_WdV 4 yX4_canPut cX4_canPut 3 (some .boolean) 2 := ⟨⟨mw_628, mw_2, by decide, by decide, by decide +kernel⟩, _, rfl, mw_627, mw_p34⟩
def fX4_put_b121 (x0 : Nat) (x3 : Int32) (x4 : Int32) (x5 : Int64) (w : mg_H) : Option (Int32 × mg_H) := mg_gN w 4 x0 4 fun v1 => (mg_ldI w 0 v1 x3).bind fun v2 => (fX4_whole (x4 * v2)).bind fun v3 => mg_rc w 4 x0 (mg_bS (fX4_comes x0 x5 v3 w) fun v4 w5 => some (v4, w5))
set_option maxHeartbeats 4000000 in
set_option maxRecDepth 100000 in
theorem gX4_put_b121 (hC : mg_Cx E p s m args meth c cX4_put 8 (some .int) RX4) (sz : Nat) (x0 : Nat) (x3 : Int32) (x4 : Int32) (x5 : Int64) (w : mg_H) (cells slots : Nat) : mg_G E p l e ({ frames := 3, cells := C, slots := S, locals := 73 } : Room) s m args below meth c 8 (mg_oS mg_vI) (fX4_put_b121 x0 x3 x4 x5 w) w sz cells slots 121 [(0, .ref x0), (3, .int x3), (4, .int x4), (5, .long x5)] [] := by
  unfold fX4_put_b121
  refine mg_aload_n (pc := 121) hC 0 dX4_put_121 rfl ?_
  refine mg_lload (pc := 122) hC 3 dX4_put_122 rfl ?_
  refine mg_iload (pc := 124) hC 2 dX4_put_124 rfl ?_
  refine mg_aload_n (pc := 126) hC 0 dX4_put_126 rfl ?_
  refine mg_getNN (pc := 127) (ci := 4) (k := 4) hC mi_4 rfl (by decide) mw_449 dX4_put_127 (fun v1 _ => ?_)
  refine mg_iload_n (pc := 130) hC 1 dX4_put_130 rfl ?_
  refine mg_iald (pc := 131) hC dX4_put_131 (fun v2 _ => ?_)
  refine mg_imul (pc := 132) hC dX4_put_132 ?_
  refine mg_cRL (pc := 133) (fun r hr => mg_S (rest := [.long x5, .ref x0]) hC wdX4_whole mw_423 mw_422 dX4_put_133 rfl rfl ⟨Nat.le_of_ble_eq_true rfl, Nat.le_of_ble_eq_true rfl⟩ (Nat.le_of_ble_eq_true rfl) (kX4_whole hr)) (fun v3 _ => ?_)
  refine mg_recv (ci := 4) (fun hb => ?_)
  refine mg_cSI (pc := 136) (fun r hr => mg_VR (rest := []) (av := [.long x5, .long v3]) (ci := 4) hC wdX4_comes mw_484 dX4_put_136 rfl rfl ⟨Nat.le_of_ble_eq_true rfl, Nat.le_of_ble_eq_true rfl⟩ (Nat.le_of_ble_eq_true rfl) hb (kX4_comes hr)) (fun v4 w5 _ => ?_)
  exact mg_iret (pc := 139) hC rfl dX4_put_139
def fX4_put_b112 (r70 : Nat → Int32 → Int32 → Int32 → Int64 → Int32 → mg_H → Option (Int32 × mg_H)) (x0 : Nat) (x2 : Int32) (x3 : Int32) (x4 : Int32) (x7 : Int32) (s0 : Int64) (s1 : Int64) (w : mg_H) : Option (Int32 × mg_H) := r70 x0 x2 x3 x4 (s1 + s0) (x7 + (1 : Int32)) w
set_option maxHeartbeats 4000000 in
set_option maxRecDepth 100000 in
theorem gX4_put_b112 (hC : mg_Cx E p s m args meth c cX4_put 8 (some .int) RX4) (sz : Nat) (r70 : Nat → Int32 → Int32 → Int32 → Int64 → Int32 → mg_H → Option (Int32 × mg_H)) (hr70 : ∀ (z0 : Nat) (z2 : Int32) (z3 : Int32) (z4 : Int32) (z5 : Int64) (z7 : Int32) (w : mg_H) (cells slots : Nat), mg_G E p l e ({ frames := 3, cells := C, slots := S, locals := 73 } : Room) s m args below meth c 8 (mg_oS mg_vI) (r70 z0 z2 z3 z4 z5 z7 w) w sz cells slots 70 [(0, .ref z0), (2, .int z2), (3, .int z3), (4, .int z4), (5, .long z5), (7, .int z7)] []) (x0 : Nat) (x2 : Int32) (x3 : Int32) (x4 : Int32) (x7 : Int32) (s0 : Int64) (s1 : Int64) (w : mg_H) (cells slots : Nat) : mg_G E p l e ({ frames := 3, cells := C, slots := S, locals := 73 } : Room) s m args below meth c 8 (mg_oS mg_vI) (fX4_put_b112 r70 x0 x2 x3 x4 x7 s0 s1 w) w sz cells slots 112 [(0, .ref x0), (2, .int x2), (3, .int x3), (4, .int x4), (7, .int x7)] [.long s0, .long s1] := by
  unfold fX4_put_b112
  refine mg_ladd (pc := 112) hC dX4_put_112 ?_
  refine mg_lstore (pc := 113) hC [(5, .long (s1 + s0)), (0, .ref x0), (2, .int x2), (3, .int x3), (4, .int x4), (7, .int x7)] dX4_put_113 (by decide) rfl ?_
  refine mg_iinc (pc := 115) hC 5 (x7 + (1 : Int32)) [(7, .int (x7 + (1 : Int32))), (5, .long (s1 + s0)), (0, .ref x0), (2, .int x2), (3, .int x3), (4, .int x4)] dX4_put_115 rfl rfl (by decide) rfl ?_
  refine mg_goto (pc := 118) hC 70 dX4_put_118 (by decide) ?_
  exact mg_sub (pc := 70) [2, 3, 4, 5, 1, 0] (L' := [(0, .ref x0), (2, .int x2), (3, .int x3), (4, .int x4), (5, .long (s1 + s0)), (7, .int (x7 + (1 : Int32)))]) rfl (hr70 _ _ _ _ _ _ _ _ _)
def fX4_put_b70 : Nat → Nat → Int32 → Int32 → Int32 → Int64 → Int32 → mg_H → Option (Int32 × mg_H)
  | 0, _, _, _, _, _, _, _ => none
  | n + 1, x0, x2, x3, x4, x5, x7, w => if x4 ≤ x7 then (fX4_put_b121 x0 x3 x4 x5 w) else (mg_gN w 4 x0 4 fun v1 => (mg_ldI w 0 v1 x3).bind fun v2 => mg_rc w 4 x0 ((fX4_digitOf x0 x2 x7 w).bind fun v3 => if v3 = (1 : Int32) then (mg_gN w 4 x0 6 fun v4 => (mg_ldL w v4 x3).bind fun v5 => fX4_put_b112 (fX4_put_b70 n) x0 x2 x3 x4 x7 v5 (x5 <<< (v2.toInt64 &&& 63)) w) else (mg_gN w 4 x0 5 fun v6 => (mg_ldL w v6 x3).bind fun v7 => fX4_put_b112 (fX4_put_b70 n) x0 x2 x3 x4 x7 v7 (x5 <<< (v2.toInt64 &&& 63)) w)))
set_option maxHeartbeats 4000000 in
set_option maxRecDepth 100000 in
theorem gX4_put_b70 (hC : mg_Cx E p s m args meth c cX4_put 8 (some .int) RX4) (sz : Nat) : ∀ (n : Nat) (x0 : Nat) (x2 : Int32) (x3 : Int32) (x4 : Int32) (x5 : Int64) (x7 : Int32) (w : mg_H) (cells slots : Nat), mg_G E p l e ({ frames := 3, cells := C, slots := S, locals := 73 } : Room) s m args below meth c 8 (mg_oS mg_vI) (fX4_put_b70 n x0 x2 x3 x4 x5 x7 w) w sz cells slots 70 [(0, .ref x0), (2, .int x2), (3, .int x3), (4, .int x4), (5, .long x5), (7, .int x7)] [] := by
  intro n
  induction n with
  | zero => intros; exact fun o hf => by rw [fX4_put_b70] at hf; cases hf
  | succ n ih =>
    intro x0 x2 x3 x4 x5 x7 w cells slots
    rw [fX4_put_b70]
    refine mg_iload (pc := 70) hC 5 dX4_put_70 rfl ?_
    refine mg_iload (pc := 72) hC 3 dX4_put_72 rfl ?_
    refine mg_icmp_ge (pc := 74) hC 121 dX4_put_74 (by decide) (fun _ => ?_) (fun _ => ?_)
    · exact mg_sub (pc := 121) [0, 2, 3, 4] (L' := [(0, .ref x0), (3, .int x3), (4, .int x4), (5, .long x5)]) rfl (gX4_put_b121 hC _  _ _ _ _ _ _ _)
    · refine mg_lload (pc := 77) hC 4 dX4_put_77 rfl ?_
      refine mg_aload_n (pc := 79) hC 0 dX4_put_79 rfl ?_
      refine mg_getNN (pc := 80) (ci := 4) (k := 4) hC mi_4 rfl (by decide) mw_449 dX4_put_80 (fun v1 _ => ?_)
      refine mg_iload_n (pc := 83) hC 2 dX4_put_83 rfl ?_
      refine mg_iald (pc := 84) hC dX4_put_84 (fun v2 _ => ?_)
      refine mg_lshl (pc := 85) hC dX4_put_85 ?_
      refine mg_aload_n (pc := 86) hC 0 dX4_put_86 rfl ?_
      refine mg_iload_n (pc := 87) hC 1 dX4_put_87 rfl ?_
      refine mg_iload (pc := 88) hC 5 dX4_put_88 rfl ?_
      refine mg_recv (ci := 4) (fun hb => ?_)
      refine mg_cRI (pc := 90) (fun r hr => mg_VR (rest := [.long (x5 <<< (v2.toInt64 &&& 63))]) (av := [.int x2, .int x7]) (ci := 4) hC wdX4_digitOf mw_617 dX4_put_90 rfl rfl ⟨Nat.le_of_ble_eq_true rfl, Nat.le_of_ble_eq_true rfl⟩ (Nat.le_of_ble_eq_true rfl) hb (kX4_digitOf hr)) (fun v3 _ => ?_)
      refine mg_iconst (pc := 93) hC (1 : Int32) dX4_put_93 (by decide) ?_
      refine mg_icmp_ne (pc := 94) hC 106 dX4_put_94 (by decide) (fun _ => ?_) (fun _ => ?_)
      · refine mg_aload_n (pc := 97) hC 0 dX4_put_97 rfl ?_
        refine mg_getNN (pc := 98) (ci := 4) (k := 6) hC mi_4 rfl (by decide) mw_451 dX4_put_98 (fun v4 _ => ?_)
        refine mg_iload_n (pc := 101) hC 2 dX4_put_101 rfl ?_
        refine mg_lald (pc := 102) hC dX4_put_102 (fun v5 _ => ?_)
        refine mg_goto (pc := 103) hC 112 dX4_put_103 (by decide) ?_
        exact mg_sub (pc := 112) [0, 1, 2, 3, 5] (L' := [(0, .ref x0), (2, .int x2), (3, .int x3), (4, .int x4), (7, .int x7)]) rfl (gX4_put_b112 hC _ _ ih _ _ _ _ _ _ _ _ _ _)
      · refine mg_aload_n (pc := 106) hC 0 dX4_put_106 rfl ?_
        refine mg_getNN (pc := 107) (ci := 4) (k := 5) hC mi_4 rfl (by decide) mw_450 dX4_put_107 (fun v6 _ => ?_)
        refine mg_iload_n (pc := 110) hC 2 dX4_put_110 rfl ?_
        refine mg_lald (pc := 111) hC dX4_put_111 (fun v7 _ => ?_)
        exact mg_sub (pc := 112) [0, 1, 2, 3, 5] (L' := [(0, .ref x0), (2, .int x2), (3, .int x3), (4, .int x4), (7, .int x7)]) rfl (gX4_put_b112 hC _ _ ih _ _ _ _ _ _ _ _ _ _)
def fX4_put (x0 : Nat) (x1 : Int32) (x2 : Int32) (w : mg_H) : Option (Int32 × mg_H) := mg_rc w 4 x0 ((fX4_isAngle x0 x1 w).bind fun v1 => if v1 = 0 then (some ((-1 : Int32), w)) else (mg_rc w 4 x0 ((fX4_isAngle x0 x2 w).bind fun v2 => if v2 = 0 then (some ((-1 : Int32), w)) else (mg_rc w 4 x0 ((fX4_canPut x0 x1 x2 w).bind fun v3 => if v3 = 0 then (some ((-2 : Int32), w)) else (mg_rc w 4 x0 ((fX4_pairOf x0 x1 w).bind fun v4 => mg_gN w 4 x0 2 fun v5 => (mg_ldL w v5 x2).bind fun v6 => (fX4_lengthOf v6).bind fun v7 => mg_gN w 4 x0 4 fun v8 => (mg_ldI w 0 v8 v4).bind fun v9 => if (v7 * v9) ≤ (20 : Int32) then (fX4_put_b70 mg_N x0 x2 v4 v7 (0 : Int64) (0 : Int32) w) else (some ((-2 : Int32), w)))))))))
set_option maxHeartbeats 4000000 in
set_option maxRecDepth 100000 in
theorem kX4_put {E : mg_P} {l : Launch} {x0 : Nat} {x1 : Int32} {x2 : Int32} {w : mg_H} {sz : Nat} {o : Int32 × mg_H} (hf : fX4_put x0 x1 x2 w = some o) : mg_C E l yX4_put cX4_put 8 (some .int) 3 73 [.ref x0, .int x1, .int x2] w sz ((mg_oS mg_vI) o) := by
  refine mg_meth (out := (mg_oS mg_vI)) (by decide) (Nat.le_of_ble_eq_true rfl) hf ?_
  intro p e C S s m below meth c hC hin
  have hC : mg_Cx E p s m _ meth c cX4_put 8 (some .int) RX4 := hC
  unfold fX4_put
  refine mg_sub (pc := 0) [0, 1, 2] (L' := [(0, .ref x0), (1, .int x1), (2, .int x2)]) rfl ?_
  refine mg_aload_n (pc := 0) hC 0 dX4_put_0 rfl ?_
  refine mg_iload_n (pc := 1) hC 1 dX4_put_1 rfl ?_
  refine mg_recv (ci := 4) (fun hb => ?_)
  refine mg_cRI (pc := 2) (fun r hr => mg_VR (rest := []) (av := [.int x1]) (ci := 4) hC wdX4_isAngle mw_496 dX4_put_2 rfl rfl ⟨Nat.le_of_ble_eq_true rfl, Nat.le_of_ble_eq_true rfl⟩ (Nat.le_of_ble_eq_true rfl) hb (kX4_isAngle hr)) (fun v1 _ => ?_)
  refine mg_if_eq (pc := 5) hC 16 dX4_put_5 (by decide) (fun _ => ?_) (fun _ => ?_)
  · refine mg_iconst (pc := 16) hC (-1 : Int32) dX4_put_16 (by decide) ?_
    exact mg_iret (pc := 17) hC rfl dX4_put_17
  · refine mg_aload_n (pc := 8) hC 0 dX4_put_8 rfl ?_
    refine mg_iload_n (pc := 9) hC 2 dX4_put_9 rfl ?_
    refine mg_recv (ci := 4) (fun hb => ?_)
    refine mg_cRI (pc := 10) (fun r hr => mg_VR (rest := []) (av := [.int x2]) (ci := 4) hC wdX4_isAngle mw_496 dX4_put_10 rfl rfl ⟨Nat.le_of_ble_eq_true rfl, Nat.le_of_ble_eq_true rfl⟩ (Nat.le_of_ble_eq_true rfl) hb (kX4_isAngle hr)) (fun v2 _ => ?_)
    refine mg_if_ne (pc := 13) hC 18 dX4_put_13 (by decide) (fun _ => ?_) (fun _ => ?_)
    · refine mg_iconst (pc := 16) hC (-1 : Int32) dX4_put_16 (by decide) ?_
      exact mg_iret (pc := 17) hC rfl dX4_put_17
    · refine mg_aload_n (pc := 18) hC 0 dX4_put_18 rfl ?_
      refine mg_iload_n (pc := 19) hC 1 dX4_put_19 rfl ?_
      refine mg_iload_n (pc := 20) hC 2 dX4_put_20 rfl ?_
      refine mg_recv (ci := 4) (fun hb => ?_)
      refine mg_cRI (pc := 21) (fun r hr => mg_VR (rest := []) (av := [.int x1, .int x2]) (ci := 4) hC wdX4_canPut mw_625 dX4_put_21 rfl rfl ⟨Nat.le_of_ble_eq_true rfl, Nat.le_of_ble_eq_true rfl⟩ (Nat.le_of_ble_eq_true rfl) hb (kX4_canPut hr)) (fun v3 _ => ?_)
      refine mg_if_ne (pc := 24) hC 30 dX4_put_24 (by decide) (fun _ => ?_) (fun _ => ?_)
      · refine mg_bipush (pc := 27) hC (-2 : Int32) dX4_put_27 (by decide) ?_
        exact mg_iret (pc := 29) hC rfl dX4_put_29
      · refine mg_aload_n (pc := 30) hC 0 dX4_put_30 rfl ?_
        refine mg_iload_n (pc := 31) hC 1 dX4_put_31 rfl ?_
        refine mg_recv (ci := 4) (fun hb => ?_)
        refine mg_cRI (pc := 32) (fun r hr => mg_VR (rest := []) (av := [.int x1]) (ci := 4) hC wdX4_pairOf mw_577 dX4_put_32 rfl rfl ⟨Nat.le_of_ble_eq_true rfl, Nat.le_of_ble_eq_true rfl⟩ (Nat.le_of_ble_eq_true rfl) hb (kX4_pairOf hr)) (fun v4 _ => ?_)
        refine mg_istore_n (pc := 35) hC [(3, .int v4), (0, .ref x0), (1, .int x1), (2, .int x2)] dX4_put_35 (by decide) rfl ?_
        refine mg_aload_n (pc := 36) hC 1 dX4_put_36 rfl ?_
        refine mg_getNN (pc := 37) (ci := 4) (k := 2) hC mi_4 rfl (by decide) mw_447 dX4_put_37 (fun v5 _ => ?_)
        refine mg_iload_n (pc := 40) hC 3 dX4_put_40 rfl ?_
        refine mg_lald (pc := 41) hC dX4_put_41 (fun v6 _ => ?_)
        refine mg_cRI (pc := 42) (fun r hr => mg_S (rest := []) hC wdX4_lengthOf mw_435 mw_434 dX4_put_42 rfl rfl ⟨Nat.le_of_ble_eq_true rfl, Nat.le_of_ble_eq_true rfl⟩ (Nat.le_of_ble_eq_true rfl) (kX4_lengthOf hr)) (fun v7 _ => ?_)
        refine mg_istore (pc := 45) hC [(4, .int v7), (3, .int v4), (0, .ref x0), (1, .int x1), (2, .int x2)] dX4_put_45 (by decide) rfl ?_
        refine mg_iload (pc := 47) hC 0 dX4_put_47 rfl ?_
        refine mg_aload_n (pc := 49) hC 2 dX4_put_49 rfl ?_
        refine mg_getNN (pc := 50) (ci := 4) (k := 4) hC mi_4 rfl (by decide) mw_449 dX4_put_50 (fun v8 _ => ?_)
        refine mg_iload_n (pc := 53) hC 1 dX4_put_53 rfl ?_
        refine mg_iald (pc := 54) hC dX4_put_54 (fun v9 _ => ?_)
        refine mg_imul (pc := 55) hC dX4_put_55 ?_
        refine mg_bipush (pc := 56) hC (20 : Int32) dX4_put_56 (by decide) ?_
        refine mg_icmp_le (pc := 58) hC 64 dX4_put_58 (by decide) (fun _ => ?_) (fun _ => ?_)
        · refine mg_lconst (pc := 64) hC (0 : Int64) dX4_put_64 (by decide) ?_
          refine mg_lstore (pc := 65) hC [(5, .long (0 : Int64)), (4, .int v7), (3, .int v4), (0, .ref x0), (1, .int x1), (2, .int x2)] dX4_put_65 (by decide) rfl ?_
          refine mg_iconst (pc := 67) hC (0 : Int32) dX4_put_67 (by decide) ?_
          refine mg_istore (pc := 68) hC [(7, .int (0 : Int32)), (5, .long (0 : Int64)), (4, .int v7), (3, .int v4), (0, .ref x0), (1, .int x1), (2, .int x2)] dX4_put_68 (by decide) rfl ?_
          exact mg_sub (pc := 70) [4, 6, 3, 2, 1, 0] (L' := [(0, .ref x0), (2, .int x2), (3, .int v4), (4, .int v7), (5, .long (0 : Int64)), (7, .int (0 : Int32))]) rfl (gX4_put_b70 hC _  _ _ _ _ _ _ _ _ _ _)
        · refine mg_bipush (pc := 61) hC (-2 : Int32) dX4_put_61 (by decide) ?_
          exact mg_iret (pc := 63) hC rfl dX4_put_63
theorem wdX4_put : mg_WdV 4 yX4_put cX4_put 8 (some .int) 2 := ⟨⟨mw_624, mw_2, by decide, by decide, by decide +kernel⟩, _, rfl, mw_622, mw_623⟩
end MG11
