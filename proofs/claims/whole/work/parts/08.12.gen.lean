section MG12
variable {E : mg_P} {p : Program} {l : Launch} {e : Env} {C S : Nat} {s : State} {m : MethodId} {args : Array Value} {below : List Frame} {meth : Method} {c : Code}
def fX4_take_b213 (x0 : Nat) (x6 : Int32) (x7 : Int64) (x9 : Int32) (w : mg_H) : Option (Int32 × mg_H) := if x9 = 0 then (some ((-4 : Int32), w)) else ((fX4_whole x6).bind fun v1 => if (lg_cmp x7 v1) = 0 then (some ((-4 : Int32), w)) else ((fX4_whole x6).bind fun v2 => mg_rc w 4 x0 (mg_bS (fX4_comes x0 x7 v2 w) fun v3 w4 => some (v3, w4))))
set_option maxHeartbeats 4000000 in
set_option maxRecDepth 100000 in
theorem gX4_take_b213 (hC : mg_Cx E p s m args meth c cX4_take 14 (some .int) RX4) (sz : Nat) (x0 : Nat) (x6 : Int32) (x7 : Int64) (x9 : Int32) (w : mg_H) (cells slots : Nat) : mg_G E p l e ({ frames := 3, cells := C, slots := S, locals := 73 } : Room) s m args below meth c 14 (mg_oS mg_vI) (fX4_take_b213 x0 x6 x7 x9 w) w sz cells slots 213 [(0, .ref x0), (6, .int x6), (7, .long x7), (9, .int x9)] [] := by
  unfold fX4_take_b213
  refine mg_iload (pc := 213) hC 3 dX4_take_213 rfl ?_
  refine mg_if_eq (pc := 215) hC 229 dX4_take_215 (by decide) (fun _ => ?_) (fun _ => ?_)
  · refine mg_bipush (pc := 229) hC (-4 : Int32) dX4_take_229 (by decide) ?_
    exact mg_iret (pc := 231) hC rfl dX4_take_231
  · refine mg_lload (pc := 218) hC 2 dX4_take_218 rfl ?_
    refine mg_iload (pc := 220) hC 1 dX4_take_220 rfl ?_
    refine mg_cRL (pc := 222) (fun r hr => mg_S (rest := [.long x7]) hC wdX4_whole mw_423 mw_422 dX4_take_222 rfl rfl ⟨Nat.le_of_ble_eq_true rfl, Nat.le_of_ble_eq_true rfl⟩ (Nat.le_of_ble_eq_true rfl) (kX4_whole hr)) (fun v1 _ => ?_)
    refine mg_lcmp (pc := 225) hC dX4_take_225 ?_
    refine mg_if_ne (pc := 226) hC 232 dX4_take_226 (by decide) (fun _ => ?_) (fun _ => ?_)
    · refine mg_bipush (pc := 229) hC (-4 : Int32) dX4_take_229 (by decide) ?_
      exact mg_iret (pc := 231) hC rfl dX4_take_231
    · refine mg_aload_n (pc := 232) hC 0 dX4_take_232 rfl ?_
      refine mg_lload (pc := 233) hC 2 dX4_take_233 rfl ?_
      refine mg_iload (pc := 235) hC 1 dX4_take_235 rfl ?_
      refine mg_cRL (pc := 237) (fun r hr => mg_S (rest := [.long x7, .ref x0]) hC wdX4_whole mw_423 mw_422 dX4_take_237 rfl rfl ⟨Nat.le_of_ble_eq_true rfl, Nat.le_of_ble_eq_true rfl⟩ (Nat.le_of_ble_eq_true rfl) (kX4_whole hr)) (fun v2 _ => ?_)
      refine mg_recv (ci := 4) (fun hb => ?_)
      refine mg_cSI (pc := 240) (fun r hr => mg_VR (rest := []) (av := [.long x7, .long v2]) (ci := 4) hC wdX4_comes mw_484 dX4_take_240 rfl rfl ⟨Nat.le_of_ble_eq_true rfl, Nat.le_of_ble_eq_true rfl⟩ (Nat.le_of_ble_eq_true rfl) hb (kX4_comes hr)) (fun v3 w4 _ => ?_)
      exact mg_iret (pc := 243) hC rfl dX4_take_243
def fX4_take_b204 (r93 : Nat → Int32 → Int32 → Int32 → Int32 → Int32 → Int64 → Int32 → Int32 → mg_H → Option (Int32 × mg_H)) (x0 : Nat) (x2 : Int32) (x3 : Int32) (x4 : Int32) (x5 : Int32) (x6 : Int32) (x9 : Int32) (x10 : Int32) (s0 : Int64) (s1 : Int64) (w : mg_H) : Option (Int32 × mg_H) := r93 x0 x2 x3 x4 x5 x6 (s1 + s0) x9 (x10 + (1 : Int32)) w
set_option maxHeartbeats 4000000 in
set_option maxRecDepth 100000 in
theorem gX4_take_b204 (hC : mg_Cx E p s m args meth c cX4_take 14 (some .int) RX4) (sz : Nat) (r93 : Nat → Int32 → Int32 → Int32 → Int32 → Int32 → Int64 → Int32 → Int32 → mg_H → Option (Int32 × mg_H)) (hr93 : ∀ (z0 : Nat) (z2 : Int32) (z3 : Int32) (z4 : Int32) (z5 : Int32) (z6 : Int32) (z7 : Int64) (z9 : Int32) (z10 : Int32) (w : mg_H) (cells slots : Nat), mg_G E p l e ({ frames := 3, cells := C, slots := S, locals := 73 } : Room) s m args below meth c 14 (mg_oS mg_vI) (r93 z0 z2 z3 z4 z5 z6 z7 z9 z10 w) w sz cells slots 93 [(0, .ref z0), (2, .int z2), (3, .int z3), (4, .int z4), (5, .int z5), (6, .int z6), (7, .long z7), (9, .int z9), (10, .int z10)] []) (x0 : Nat) (x2 : Int32) (x3 : Int32) (x4 : Int32) (x5 : Int32) (x6 : Int32) (x9 : Int32) (x10 : Int32) (s0 : Int64) (s1 : Int64) (w : mg_H) (cells slots : Nat) : mg_G E p l e ({ frames := 3, cells := C, slots := S, locals := 73 } : Room) s m args below meth c 14 (mg_oS mg_vI) (fX4_take_b204 r93 x0 x2 x3 x4 x5 x6 x9 x10 s0 s1 w) w sz cells slots 204 [(0, .ref x0), (2, .int x2), (3, .int x3), (4, .int x4), (5, .int x5), (6, .int x6), (9, .int x9), (10, .int x10)] [.long s0, .long s1] := by
  unfold fX4_take_b204
  refine mg_ladd (pc := 204) hC dX4_take_204 ?_
  refine mg_lstore (pc := 205) hC [(7, .long (s1 + s0)), (0, .ref x0), (2, .int x2), (3, .int x3), (4, .int x4), (5, .int x5), (6, .int x6), (9, .int x9), (10, .int x10)] dX4_take_205 (by decide) rfl ?_
  refine mg_iinc (pc := 207) hC 8 (x10 + (1 : Int32)) [(10, .int (x10 + (1 : Int32))), (7, .long (s1 + s0)), (0, .ref x0), (2, .int x2), (3, .int x3), (4, .int x4), (5, .int x5), (6, .int x6), (9, .int x9)] dX4_take_207 rfl rfl (by decide) rfl ?_
  refine mg_goto (pc := 210) hC 93 dX4_take_210 (by decide) ?_
  exact mg_sub (pc := 93) [2, 3, 4, 5, 6, 7, 1, 8, 0] (L' := [(0, .ref x0), (2, .int x2), (3, .int x3), (4, .int x4), (5, .int x5), (6, .int x6), (7, .long (s1 + s0)), (9, .int x9), (10, .int (x10 + (1 : Int32)))]) rfl (hr93 _ _ _ _ _ _ _ _ _ _ _ _)
def fX4_take_b179 (r93 : Nat → Int32 → Int32 → Int32 → Int32 → Int32 → Int64 → Int32 → Int32 → mg_H → Option (Int32 × mg_H)) (x0 : Nat) (x2 : Int32) (x3 : Int32) (x4 : Int32) (x5 : Int32) (x6 : Int32) (x7 : Int64) (x10 : Int32) (x11 : Int64) (s0 : Int32) (w : mg_H) : Option (Int32 × mg_H) := mg_gN w 4 x0 6 fun v1 => (mg_ldL w v1 x3).bind fun v2 => if (lg_cmp x11 v2) = 0 then (fX4_take_b204 r93 x0 x2 x3 x4 x5 x6 s0 x10 (1 : Int64) ((2 : Int64) * x7) w) else (fX4_take_b204 r93 x0 x2 x3 x4 x5 x6 s0 x10 (0 : Int64) ((2 : Int64) * x7) w)
set_option maxHeartbeats 4000000 in
set_option maxRecDepth 100000 in
theorem gX4_take_b179 (hC : mg_Cx E p s m args meth c cX4_take 14 (some .int) RX4) (sz : Nat) (r93 : Nat → Int32 → Int32 → Int32 → Int32 → Int32 → Int64 → Int32 → Int32 → mg_H → Option (Int32 × mg_H)) (hr93 : ∀ (z0 : Nat) (z2 : Int32) (z3 : Int32) (z4 : Int32) (z5 : Int32) (z6 : Int32) (z7 : Int64) (z9 : Int32) (z10 : Int32) (w : mg_H) (cells slots : Nat), mg_G E p l e ({ frames := 3, cells := C, slots := S, locals := 73 } : Room) s m args below meth c 14 (mg_oS mg_vI) (r93 z0 z2 z3 z4 z5 z6 z7 z9 z10 w) w sz cells slots 93 [(0, .ref z0), (2, .int z2), (3, .int z3), (4, .int z4), (5, .int z5), (6, .int z6), (7, .long z7), (9, .int z9), (10, .int z10)] []) (x0 : Nat) (x2 : Int32) (x3 : Int32) (x4 : Int32) (x5 : Int32) (x6 : Int32) (x7 : Int64) (x10 : Int32) (x11 : Int64) (s0 : Int32) (w : mg_H) (cells slots : Nat) : mg_G E p l e ({ frames := 3, cells := C, slots := S, locals := 73 } : Room) s m args below meth c 14 (mg_oS mg_vI) (fX4_take_b179 r93 x0 x2 x3 x4 x5 x6 x7 x10 x11 s0 w) w sz cells slots 179 [(0, .ref x0), (2, .int x2), (3, .int x3), (4, .int x4), (5, .int x5), (6, .int x6), (7, .long x7), (10, .int x10), (11, .long x11)] [.int s0] := by
  unfold fX4_take_b179
  refine mg_istore (pc := 179) hC [(9, .int s0), (0, .ref x0), (2, .int x2), (3, .int x3), (4, .int x4), (5, .int x5), (6, .int x6), (7, .long x7), (10, .int x10), (11, .long x11)] dX4_take_179 (by decide) rfl ?_
  refine mg_ldc2 (pc := 181) hC (2 : Int64) dX4_take_181 mw_437 ?_
  refine mg_lload (pc := 184) hC 7 dX4_take_184 rfl ?_
  refine mg_lmul (pc := 186) hC dX4_take_186 ?_
  refine mg_lload (pc := 187) hC 9 dX4_take_187 rfl ?_
  refine mg_aload_n (pc := 189) hC 1 dX4_take_189 rfl ?_
  refine mg_getNN (pc := 190) (ci := 4) (k := 6) hC mi_4 rfl (by decide) mw_451 dX4_take_190 (fun v1 _ => ?_)
  refine mg_iload_n (pc := 193) hC 3 dX4_take_193 rfl ?_
  refine mg_lald (pc := 194) hC dX4_take_194 (fun v2 _ => ?_)
  refine mg_lcmp (pc := 195) hC dX4_take_195 ?_
  refine mg_if_ne (pc := 196) hC 203 dX4_take_196 (by decide) (fun _ => ?_) (fun _ => ?_)
  · refine mg_lconst (pc := 199) hC (1 : Int64) dX4_take_199 (by decide) ?_
    refine mg_goto (pc := 200) hC 204 dX4_take_200 (by decide) ?_
    exact mg_sub (pc := 204) [1, 2, 3, 4, 5, 6, 0, 8] (L' := [(0, .ref x0), (2, .int x2), (3, .int x3), (4, .int x4), (5, .int x5), (6, .int x6), (9, .int s0), (10, .int x10)]) rfl (gX4_take_b204 hC _ _ hr93 _ _ _ _ _ _ _ _ _ _ _ _ _)
  · refine mg_lconst (pc := 203) hC (0 : Int64) dX4_take_203 (by decide) ?_
    exact mg_sub (pc := 204) [1, 2, 3, 4, 5, 6, 0, 8] (L' := [(0, .ref x0), (2, .int x2), (3, .int x3), (4, .int x4), (5, .int x5), (6, .int x6), (9, .int s0), (10, .int x10)]) rfl (gX4_take_b204 hC _ _ hr93 _ _ _ _ _ _ _ _ _ _ _ _ _)
def fX4_take_b174 (r93 : Nat → Int32 → Int32 → Int32 → Int32 → Int32 → Int64 → Int32 → Int32 → mg_H → Option (Int32 × mg_H)) (x0 : Nat) (x2 : Int32) (x3 : Int32) (x4 : Int32) (x5 : Int32) (x6 : Int32) (x7 : Int64) (x10 : Int32) (x11 : Int64) (w : mg_H) : Option (Int32 × mg_H) := fX4_take_b179 r93 x0 x2 x3 x4 x5 x6 x7 x10 x11 (1 : Int32) w
set_option maxHeartbeats 4000000 in
set_option maxRecDepth 100000 in
theorem gX4_take_b174 (hC : mg_Cx E p s m args meth c cX4_take 14 (some .int) RX4) (sz : Nat) (r93 : Nat → Int32 → Int32 → Int32 → Int32 → Int32 → Int64 → Int32 → Int32 → mg_H → Option (Int32 × mg_H)) (hr93 : ∀ (z0 : Nat) (z2 : Int32) (z3 : Int32) (z4 : Int32) (z5 : Int32) (z6 : Int32) (z7 : Int64) (z9 : Int32) (z10 : Int32) (w : mg_H) (cells slots : Nat), mg_G E p l e ({ frames := 3, cells := C, slots := S, locals := 73 } : Room) s m args below meth c 14 (mg_oS mg_vI) (r93 z0 z2 z3 z4 z5 z6 z7 z9 z10 w) w sz cells slots 93 [(0, .ref z0), (2, .int z2), (3, .int z3), (4, .int z4), (5, .int z5), (6, .int z6), (7, .long z7), (9, .int z9), (10, .int z10)] []) (x0 : Nat) (x2 : Int32) (x3 : Int32) (x4 : Int32) (x5 : Int32) (x6 : Int32) (x7 : Int64) (x10 : Int32) (x11 : Int64) (w : mg_H) (cells slots : Nat) : mg_G E p l e ({ frames := 3, cells := C, slots := S, locals := 73 } : Room) s m args below meth c 14 (mg_oS mg_vI) (fX4_take_b174 r93 x0 x2 x3 x4 x5 x6 x7 x10 x11 w) w sz cells slots 174 [(0, .ref x0), (2, .int x2), (3, .int x3), (4, .int x4), (5, .int x5), (6, .int x6), (7, .long x7), (10, .int x10), (11, .long x11)] [] := by
  unfold fX4_take_b174
  refine mg_iconst (pc := 174) hC (1 : Int32) dX4_take_174 (by decide) ?_
  refine mg_goto (pc := 175) hC 179 dX4_take_175 (by decide) ?_
  exact mg_sub (pc := 179) [0, 1, 2, 3, 4, 5, 6, 7, 8] (L' := [(0, .ref x0), (2, .int x2), (3, .int x3), (4, .int x4), (5, .int x5), (6, .int x6), (7, .long x7), (10, .int x10), (11, .long x11)]) rfl (gX4_take_b179 hC _ _ hr93 _ _ _ _ _ _ _ _ _ _ _ _ _)
def fX4_take_b150 (r93 : Nat → Int32 → Int32 → Int32 → Int32 → Int32 → Int64 → Int32 → Int32 → mg_H → Option (Int32 × mg_H)) (x0 : Nat) (x2 : Int32) (x3 : Int32) (x4 : Int32) (x5 : Int32) (x6 : Int32) (x7 : Int64) (x10 : Int32) (x11 : Int64) (w : mg_H) : Option (Int32 × mg_H) := mg_gN w 4 x0 5 fun v1 => (mg_ldL w v1 x3).bind fun v2 => if (lg_cmp x11 v2) = 0 then (fX4_take_b174 r93 x0 x2 x3 x4 x5 x6 x7 x10 x11 w) else (mg_gN w 4 x0 6 fun v3 => (mg_ldL w v3 x3).bind fun v4 => if (lg_cmp x11 v4) = 0 then (fX4_take_b174 r93 x0 x2 x3 x4 x5 x6 x7 x10 x11 w) else (fX4_take_b179 r93 x0 x2 x3 x4 x5 x6 x7 x10 x11 (0 : Int32) w))
set_option maxHeartbeats 4000000 in
set_option maxRecDepth 100000 in
theorem gX4_take_b150 (hC : mg_Cx E p s m args meth c cX4_take 14 (some .int) RX4) (sz : Nat) (r93 : Nat → Int32 → Int32 → Int32 → Int32 → Int32 → Int64 → Int32 → Int32 → mg_H → Option (Int32 × mg_H)) (hr93 : ∀ (z0 : Nat) (z2 : Int32) (z3 : Int32) (z4 : Int32) (z5 : Int32) (z6 : Int32) (z7 : Int64) (z9 : Int32) (z10 : Int32) (w : mg_H) (cells slots : Nat), mg_G E p l e ({ frames := 3, cells := C, slots := S, locals := 73 } : Room) s m args below meth c 14 (mg_oS mg_vI) (r93 z0 z2 z3 z4 z5 z6 z7 z9 z10 w) w sz cells slots 93 [(0, .ref z0), (2, .int z2), (3, .int z3), (4, .int z4), (5, .int z5), (6, .int z6), (7, .long z7), (9, .int z9), (10, .int z10)] []) (x0 : Nat) (x2 : Int32) (x3 : Int32) (x4 : Int32) (x5 : Int32) (x6 : Int32) (x7 : Int64) (x10 : Int32) (x11 : Int64) (w : mg_H) (cells slots : Nat) : mg_G E p l e ({ frames := 3, cells := C, slots := S, locals := 73 } : Room) s m args below meth c 14 (mg_oS mg_vI) (fX4_take_b150 r93 x0 x2 x3 x4 x5 x6 x7 x10 x11 w) w sz cells slots 150 [(0, .ref x0), (2, .int x2), (3, .int x3), (4, .int x4), (5, .int x5), (6, .int x6), (7, .long x7), (10, .int x10), (11, .long x11)] [] := by
  unfold fX4_take_b150
  refine mg_lload (pc := 150) hC 8 dX4_take_150 rfl ?_
  refine mg_aload_n (pc := 152) hC 0 dX4_take_152 rfl ?_
  refine mg_getNN (pc := 153) (ci := 4) (k := 5) hC mi_4 rfl (by decide) mw_450 dX4_take_153 (fun v1 _ => ?_)
  refine mg_iload_n (pc := 156) hC 2 dX4_take_156 rfl ?_
  refine mg_lald (pc := 157) hC dX4_take_157 (fun v2 _ => ?_)
  refine mg_lcmp (pc := 158) hC dX4_take_158 ?_
  refine mg_if_eq (pc := 159) hC 174 dX4_take_159 (by decide) (fun _ => ?_) (fun _ => ?_)
  · exact mg_sub (pc := 174) [0, 1, 2, 3, 4, 5, 6, 7, 8] (L' := [(0, .ref x0), (2, .int x2), (3, .int x3), (4, .int x4), (5, .int x5), (6, .int x6), (7, .long x7), (10, .int x10), (11, .long x11)]) rfl (gX4_take_b174 hC _ _ hr93 _ _ _ _ _ _ _ _ _ _ _ _)
  · refine mg_lload (pc := 162) hC 8 dX4_take_162 rfl ?_
    refine mg_aload_n (pc := 164) hC 0 dX4_take_164 rfl ?_
    refine mg_getNN (pc := 165) (ci := 4) (k := 6) hC mi_4 rfl (by decide) mw_451 dX4_take_165 (fun v3 _ => ?_)
    refine mg_iload_n (pc := 168) hC 2 dX4_take_168 rfl ?_
    refine mg_lald (pc := 169) hC dX4_take_169 (fun v4 _ => ?_)
    refine mg_lcmp (pc := 170) hC dX4_take_170 ?_
    refine mg_if_ne (pc := 171) hC 178 dX4_take_171 (by decide) (fun _ => ?_) (fun _ => ?_)
    · exact mg_sub (pc := 174) [0, 1, 2, 3, 4, 5, 6, 7, 8] (L' := [(0, .ref x0), (2, .int x2), (3, .int x3), (4, .int x4), (5, .int x5), (6, .int x6), (7, .long x7), (10, .int x10), (11, .long x11)]) rfl (gX4_take_b174 hC _ _ hr93 _ _ _ _ _ _ _ _ _ _ _ _)
    · refine mg_iconst (pc := 178) hC (0 : Int32) dX4_take_178 (by decide) ?_
      exact mg_sub (pc := 179) [0, 1, 2, 3, 4, 5, 6, 7, 8] (L' := [(0, .ref x0), (2, .int x2), (3, .int x3), (4, .int x4), (5, .int x5), (6, .int x6), (7, .long x7), (10, .int x10), (11, .long x11)]) rfl (gX4_take_b179 hC _ _ hr93 _ _ _ _ _ _ _ _ _ _ _ _ _)
def fX4_take_b111 (r93 : Nat → Int32 → Int32 → Int32 → Int32 → Int32 → Int64 → Int32 → Int32 → mg_H → Option (Int32 × mg_H)) : Nat → Nat → Int32 → Int32 → Int32 → Int32 → Int32 → Int64 → Int32 → Int64 → Int32 → mg_H → Option (Int32 × mg_H)
  | 0, _, _, _, _, _, _, _, _, _, _, _ => none
  | n + 1, x0, x2, x3, x4, x5, x6, x7, x10, x11, x13, w => if x4 ≤ x13 then (fX4_take_b150 r93 x0 x2 x3 x4 x5 x6 x7 x10 x11 w) else (if x5 = 0 then none else (mg_rc w 4 x0 ((fX4_digitOf x0 x2 (((x10 * x4) + x13) - ((x10 * x4) + x13) / x5 * x5) w).bind fun v1 => fX4_take_b111 r93 n x0 x2 x3 x4 x5 x6 x7 x10 (((2 : Int64) * x11) + (v1.toInt64)) (x13 + (1 : Int32)) w)))
set_option maxHeartbeats 4000000 in
set_option maxRecDepth 100000 in
theorem gX4_take_b111 (hC : mg_Cx E p s m args meth c cX4_take 14 (some .int) RX4) (sz : Nat) (r93 : Nat → Int32 → Int32 → Int32 → Int32 → Int32 → Int64 → Int32 → Int32 → mg_H → Option (Int32 × mg_H)) (hr93 : ∀ (z0 : Nat) (z2 : Int32) (z3 : Int32) (z4 : Int32) (z5 : Int32) (z6 : Int32) (z7 : Int64) (z9 : Int32) (z10 : Int32) (w : mg_H) (cells slots : Nat), mg_G E p l e ({ frames := 3, cells := C, slots := S, locals := 73 } : Room) s m args below meth c 14 (mg_oS mg_vI) (r93 z0 z2 z3 z4 z5 z6 z7 z9 z10 w) w sz cells slots 93 [(0, .ref z0), (2, .int z2), (3, .int z3), (4, .int z4), (5, .int z5), (6, .int z6), (7, .long z7), (9, .int z9), (10, .int z10)] []) : ∀ (n : Nat) (x0 : Nat) (x2 : Int32) (x3 : Int32) (x4 : Int32) (x5 : Int32) (x6 : Int32) (x7 : Int64) (x10 : Int32) (x11 : Int64) (x13 : Int32) (w : mg_H) (cells slots : Nat), mg_G E p l e ({ frames := 3, cells := C, slots := S, locals := 73 } : Room) s m args below meth c 14 (mg_oS mg_vI) (fX4_take_b111 r93 n x0 x2 x3 x4 x5 x6 x7 x10 x11 x13 w) w sz cells slots 111 [(0, .ref x0), (2, .int x2), (3, .int x3), (4, .int x4), (5, .int x5), (6, .int x6), (7, .long x7), (10, .int x10), (11, .long x11), (13, .int x13)] [] := by
  intro n
  induction n with
  | zero => intros; exact fun o hf => by rw [fX4_take_b111] at hf; cases hf
  | succ n ih =>
    intro x0 x2 x3 x4 x5 x6 x7 x10 x11 x13 w cells slots
    rw [fX4_take_b111]
    refine mg_iload (pc := 111) hC 9 dX4_take_111 rfl ?_
    refine mg_iload (pc := 113) hC 3 dX4_take_113 rfl ?_
    refine mg_icmp_ge (pc := 115) hC 150 dX4_take_115 (by decide) (fun _ => ?_) (fun _ => ?_)
    · exact mg_sub (pc := 150) [0, 1, 2, 3, 4, 5, 6, 7, 8] (L' := [(0, .ref x0), (2, .int x2), (3, .int x3), (4, .int x4), (5, .int x5), (6, .int x6), (7, .long x7), (10, .int x10), (11, .long x11)]) rfl (gX4_take_b150 hC _ _ hr93 _ _ _ _ _ _ _ _ _ _ _ _)
    · refine mg_ldc2 (pc := 118) hC (2 : Int64) dX4_take_118 mw_437 ?_
      refine mg_lload (pc := 121) hC 8 dX4_take_121 rfl ?_
      refine mg_lmul (pc := 123) hC dX4_take_123 ?_
      refine mg_aload_n (pc := 124) hC 0 dX4_take_124 rfl ?_
      refine mg_iload_n (pc := 125) hC 1 dX4_take_125 rfl ?_
      refine mg_iload (pc := 126) hC 7 dX4_take_126 rfl ?_
      refine mg_iload (pc := 128) hC 3 dX4_take_128 rfl ?_
      refine mg_imul (pc := 130) hC dX4_take_130 ?_
      refine mg_iload (pc := 131) hC 9 dX4_take_131 rfl ?_
      refine mg_iadd (pc := 133) hC dX4_take_133 ?_
      refine mg_iload (pc := 134) hC 4 dX4_take_134 rfl ?_
      refine mg_irem (pc := 136) hC dX4_take_136 ?_
      refine mg_recv (ci := 4) (fun hb => ?_)
      refine mg_cRI (pc := 137) (fun r hr => mg_VR (rest := [.long ((2 : Int64) * x11)]) (av := [.int x2, .int (((x10 * x4) + x13) - ((x10 * x4) + x13) / x5 * x5)]) (ci := 4) hC wdX4_digitOf mw_617 dX4_take_137 rfl rfl ⟨Nat.le_of_ble_eq_true rfl, Nat.le_of_ble_eq_true rfl⟩ (Nat.le_of_ble_eq_true rfl) hb (kX4_digitOf hr)) (fun v1 _ => ?_)
      refine mg_i2l (pc := 140) hC dX4_take_140 ?_
      refine mg_ladd (pc := 141) hC dX4_take_141 ?_
      refine mg_lstore (pc := 142) hC [(11, .long (((2 : Int64) * x11) + (v1.toInt64))), (0, .ref x0), (2, .int x2), (3, .int x3), (4, .int x4), (5, .int x5), (6, .int x6), (7, .long x7), (10, .int x10), (13, .int x13)] dX4_take_142 (by decide) rfl ?_
      refine mg_iinc (pc := 144) hC 9 (x13 + (1 : Int32)) [(13, .int (x13 + (1 : Int32))), (11, .long (((2 : Int64) * x11) + (v1.toInt64))), (0, .ref x0), (2, .int x2), (3, .int x3), (4, .int x4), (5, .int x5), (6, .int x6), (7, .long x7), (10, .int x10)] dX4_take_144 rfl rfl (by decide) rfl ?_
      refine mg_goto (pc := 147) hC 111 dX4_take_147 (by decide) ?_
      exact mg_sub (pc := 111) [2, 3, 4, 5, 6, 7, 8, 9, 1, 0] (L' := [(0, .ref x0), (2, .int x2), (3, .int x3), (4, .int x4), (5, .int x5), (6, .int x6), (7, .long x7), (10, .int x10), (11, .long (((2 : Int64) * x11) + (v1.toInt64))), (13, .int (x13 + (1 : Int32)))]) rfl (ih _ _ _ _ _ _ _ _ _ _ _ _ _)
def fX4_take_b93 : Nat → Nat → Int32 → Int32 → Int32 → Int32 → Int32 → Int64 → Int32 → Int32 → mg_H → Option (Int32 × mg_H)
  | 0, _, _, _, _, _, _, _, _, _, _ => none
  | n + 1, x0, x2, x3, x4, x5, x6, x7, x9, x10, w => if x6 ≤ x10 then (fX4_take_b213 x0 x6 x7 x9 w) else (if x9 = 0 then (fX4_take_b213 x0 x6 x7 x9 w) else (fX4_take_b111 (fX4_take_b93 n) mg_N x0 x2 x3 x4 x5 x6 x7 x10 (0 : Int64) (0 : Int32) w))
set_option maxHeartbeats 4000000 in
set_option maxRecDepth 100000 in
theorem gX4_take_b93 (hC : mg_Cx E p s m args meth c cX4_take 14 (some .int) RX4) (sz : Nat) : ∀ (n : Nat) (x0 : Nat) (x2 : Int32) (x3 : Int32) (x4 : Int32) (x5 : Int32) (x6 : Int32) (x7 : Int64) (x9 : Int32) (x10 : Int32) (w : mg_H) (cells slots : Nat), mg_G E p l e ({ frames := 3, cells := C, slots := S, locals := 73 } : Room) s m args below meth c 14 (mg_oS mg_vI) (fX4_take_b93 n x0 x2 x3 x4 x5 x6 x7 x9 x10 w) w sz cells slots 93 [(0, .ref x0), (2, .int x2), (3, .int x3), (4, .int x4), (5, .int x5), (6, .int x6), (7, .long x7), (9, .int x9), (10, .int x10)] [] := by
  intro n
  induction n with
  | zero => intros; exact fun o hf => by rw [fX4_take_b93] at hf; cases hf
  | succ n ih =>
    intro x0 x2 x3 x4 x5 x6 x7 x9 x10 w cells slots
    rw [fX4_take_b93]
    refine mg_iload (pc := 93) hC 8 dX4_take_93 rfl ?_
    refine mg_iload (pc := 95) hC 5 dX4_take_95 rfl ?_
    refine mg_icmp_ge (pc := 97) hC 213 dX4_take_97 (by decide) (fun _ => ?_) (fun _ => ?_)
    · exact mg_sub (pc := 213) [0, 5, 6, 7] (L' := [(0, .ref x0), (6, .int x6), (7, .long x7), (9, .int x9)]) rfl (gX4_take_b213 hC _  _ _ _ _ _ _ _)
    · refine mg_iload (pc := 100) hC 7 dX4_take_100 rfl ?_
      refine mg_if_eq (pc := 102) hC 213 dX4_take_102 (by decide) (fun _ => ?_) (fun _ => ?_)
      · exact mg_sub (pc := 213) [0, 5, 6, 7] (L' := [(0, .ref x0), (6, .int x6), (7, .long x7), (9, .int x9)]) rfl (gX4_take_b213 hC _  _ _ _ _ _ _ _)
      · refine mg_lconst (pc := 105) hC (0 : Int64) dX4_take_105 (by decide) ?_
        refine mg_lstore (pc := 106) hC [(11, .long (0 : Int64)), (0, .ref x0), (2, .int x2), (3, .int x3), (4, .int x4), (5, .int x5), (6, .int x6), (7, .long x7), (9, .int x9), (10, .int x10)] dX4_take_106 (by decide) rfl ?_
        refine mg_iconst (pc := 108) hC (0 : Int32) dX4_take_108 (by decide) ?_
        refine mg_istore (pc := 109) hC [(13, .int (0 : Int32)), (11, .long (0 : Int64)), (0, .ref x0), (2, .int x2), (3, .int x3), (4, .int x4), (5, .int x5), (6, .int x6), (7, .long x7), (9, .int x9), (10, .int x10)] dX4_take_109 (by decide) rfl ?_
        exact mg_sub (pc := 111) [2, 3, 4, 5, 6, 7, 8, 10, 1, 0] (L' := [(0, .ref x0), (2, .int x2), (3, .int x3), (4, .int x4), (5, .int x5), (6, .int x6), (7, .long x7), (10, .int x10), (11, .long (0 : Int64)), (13, .int (0 : Int32))]) rfl (gX4_take_b111 hC _ _ ih _ _ _ _ _ _ _ _ _ _ _ _ _ _)
def fX4_take (x0 : Nat) (x1 : Int32) (x2 : Int32) (w : mg_H) : Option (Int32 × mg_H) := mg_rc w 4 x0 ((fX4_isAngle x0 x1 w).bind fun v1 => if v1 = 0 then (some ((-1 : Int32), w)) else (mg_rc w 4 x0 ((fX4_isAngle x0 x2 w).bind fun v2 => if v2 = 0 then (some ((-1 : Int32), w)) else (mg_rc w 4 x0 ((fX4_canPut x0 x1 x2 w).bind fun v3 => if v3 = 0 then (some ((-2 : Int32), w)) else (mg_gN w 4 x0 2 fun v4 => (mg_ldL w v4 x2).bind fun v5 => (fX4_lengthOf v5).bind fun v6 => if v6 ≤ (20 : Int32) then (mg_rc w 4 x0 ((fX4_pairOf x0 x1 w).bind fun v7 => mg_gN w 4 x0 4 fun v8 => (mg_ldI w 0 v8 v7).bind fun v9 => mg_gN w 4 x0 2 fun v10 => (mg_ldL w v10 x2).bind fun v11 => (fX4_lengthOf v11).bind fun v12 => (fX4_divisor (v12.toInt64) (v9.toInt64)).bind fun v13 => if (v13.toInt32) = 0 then none else (fX4_take_b93 mg_N x0 x2 v7 v9 v12 (v12 / (v13.toInt32)) (0 : Int64) (1 : Int32) (0 : Int32) w))) else (some ((-2 : Int32), w))))))))
set_option maxHeartbeats 4000000 in
set_option maxRecDepth 100000 in
theorem kX4_take {E : mg_P} {l : Launch} {x0 : Nat} {x1 : Int32} {x2 : Int32} {w : mg_H} {sz : Nat} {o : Int32 × mg_H} (hf : fX4_take x0 x1 x2 w = some o) : mg_C E l yX4_take cX4_take 14 (some .int) 3 73 [.ref x0, .int x1, .int x2] w sz ((mg_oS mg_vI) o) := by
  refine mg_meth (out := (mg_oS mg_vI)) (by decide) (Nat.le_of_ble_eq_true rfl) hf ?_
  intro p e C S s m below meth c hC hin
  have hC : mg_Cx E p s m _ meth c cX4_take 14 (some .int) RX4 := hC
  unfold fX4_take
  refine mg_sub (pc := 0) [0, 1, 2] (L' := [(0, .ref x0), (1, .int x1), (2, .int x2)]) rfl ?_
  refine mg_aload_n (pc := 0) hC 0 dX4_take_0 rfl ?_
  refine mg_iload_n (pc := 1) hC 1 dX4_take_1 rfl ?_
  refine mg_recv (ci := 4) (fun hb => ?_)
  refine mg_cRI (pc := 2) (fun r hr => mg_VR (rest := []) (av := [.int x1]) (ci := 4) hC wdX4_isAngle mw_496 dX4_take_2 rfl rfl ⟨Nat.le_of_ble_eq_true rfl, Nat.le_of_ble_eq_true rfl⟩ (Nat.le_of_ble_eq_true rfl) hb (kX4_isAngle hr)) (fun v1 _ => ?_)
  refine mg_if_eq (pc := 5) hC 16 dX4_take_5 (by decide) (fun _ => ?_) (fun _ => ?_)
  · refine mg_iconst (pc := 16) hC (-1 : Int32) dX4_take_16 (by decide) ?_
    exact mg_iret (pc := 17) hC rfl dX4_take_17
  · refine mg_aload_n (pc := 8) hC 0 dX4_take_8 rfl ?_
    refine mg_iload_n (pc := 9) hC 2 dX4_take_9 rfl ?_
    refine mg_recv (ci := 4) (fun hb => ?_)
    refine mg_cRI (pc := 10) (fun r hr => mg_VR (rest := []) (av := [.int x2]) (ci := 4) hC wdX4_isAngle mw_496 dX4_take_10 rfl rfl ⟨Nat.le_of_ble_eq_true rfl, Nat.le_of_ble_eq_true rfl⟩ (Nat.le_of_ble_eq_true rfl) hb (kX4_isAngle hr)) (fun v2 _ => ?_)
    refine mg_if_ne (pc := 13) hC 18 dX4_take_13 (by decide) (fun _ => ?_) (fun _ => ?_)
    · refine mg_iconst (pc := 16) hC (-1 : Int32) dX4_take_16 (by decide) ?_
      exact mg_iret (pc := 17) hC rfl dX4_take_17
    · refine mg_aload_n (pc := 18) hC 0 dX4_take_18 rfl ?_
      refine mg_iload_n (pc := 19) hC 1 dX4_take_19 rfl ?_
      refine mg_iload_n (pc := 20) hC 2 dX4_take_20 rfl ?_
      refine mg_recv (ci := 4) (fun hb => ?_)
      refine mg_cRI (pc := 21) (fun r hr => mg_VR (rest := []) (av := [.int x1, .int x2]) (ci := 4) hC wdX4_canPut mw_625 dX4_take_21 rfl rfl ⟨Nat.le_of_ble_eq_true rfl, Nat.le_of_ble_eq_true rfl⟩ (Nat.le_of_ble_eq_true rfl) hb (kX4_canPut hr)) (fun v3 _ => ?_)
      refine mg_if_eq (pc := 24) hC 41 dX4_take_24 (by decide) (fun _ => ?_) (fun _ => ?_)
      · refine mg_bipush (pc := 41) hC (-2 : Int32) dX4_take_41 (by decide) ?_
        exact mg_iret (pc := 43) hC rfl dX4_take_43
      · refine mg_aload_n (pc := 27) hC 0 dX4_take_27 rfl ?_
        refine mg_getNN (pc := 28) (ci := 4) (k := 2) hC mi_4 rfl (by decide) mw_447 dX4_take_28 (fun v4 _ => ?_)
        refine mg_iload_n (pc := 31) hC 2 dX4_take_31 rfl ?_
        refine mg_lald (pc := 32) hC dX4_take_32 (fun v5 _ => ?_)
        refine mg_cRI (pc := 33) (fun r hr => mg_S (rest := []) hC wdX4_lengthOf mw_435 mw_434 dX4_take_33 rfl rfl ⟨Nat.le_of_ble_eq_true rfl, Nat.le_of_ble_eq_true rfl⟩ (Nat.le_of_ble_eq_true rfl) (kX4_lengthOf hr)) (fun v6 _ => ?_)
        refine mg_bipush (pc := 36) hC (20 : Int32) dX4_take_36 (by decide) ?_
        refine mg_icmp_le (pc := 38) hC 44 dX4_take_38 (by decide) (fun _ => ?_) (fun _ => ?_)
        · refine mg_aload_n (pc := 44) hC 0 dX4_take_44 rfl ?_
          refine mg_iload_n (pc := 45) hC 1 dX4_take_45 rfl ?_
          refine mg_recv (ci := 4) (fun hb => ?_)
          refine mg_cRI (pc := 46) (fun r hr => mg_VR (rest := []) (av := [.int x1]) (ci := 4) hC wdX4_pairOf mw_577 dX4_take_46 rfl rfl ⟨Nat.le_of_ble_eq_true rfl, Nat.le_of_ble_eq_true rfl⟩ (Nat.le_of_ble_eq_true rfl) hb (kX4_pairOf hr)) (fun v7 _ => ?_)
          refine mg_istore_n (pc := 49) hC [(3, .int v7), (0, .ref x0), (1, .int x1), (2, .int x2)] dX4_take_49 (by decide) rfl ?_
          refine mg_aload_n (pc := 50) hC 1 dX4_take_50 rfl ?_
          refine mg_getNN (pc := 51) (ci := 4) (k := 4) hC mi_4 rfl (by decide) mw_449 dX4_take_51 (fun v8 _ => ?_)
          refine mg_iload_n (pc := 54) hC 0 dX4_take_54 rfl ?_
          refine mg_iald (pc := 55) hC dX4_take_55 (fun v9 _ => ?_)
          refine mg_istore (pc := 56) hC [(4, .int v9), (3, .int v7), (0, .ref x0), (1, .int x1), (2, .int x2)] dX4_take_56 (by decide) rfl ?_
          refine mg_aload_n (pc := 58) hC 2 dX4_take_58 rfl ?_
          refine mg_getNN (pc := 59) (ci := 4) (k := 2) hC mi_4 rfl (by decide) mw_447 dX4_take_59 (fun v10 _ => ?_)
          refine mg_iload_n (pc := 62) hC 4 dX4_take_62 rfl ?_
          refine mg_lald (pc := 63) hC dX4_take_63 (fun v11 _ => ?_)
          refine mg_cRI (pc := 64) (fun r hr => mg_S (rest := []) hC wdX4_lengthOf mw_435 mw_434 dX4_take_64 rfl rfl ⟨Nat.le_of_ble_eq_true rfl, Nat.le_of_ble_eq_true rfl⟩ (Nat.le_of_ble_eq_true rfl) (kX4_lengthOf hr)) (fun v12 _ => ?_)
          refine mg_istore (pc := 67) hC [(5, .int v12), (4, .int v9), (3, .int v7), (0, .ref x0), (1, .int x1), (2, .int x2)] dX4_take_67 (by decide) rfl ?_
          refine mg_iload (pc := 69) hC 0 dX4_take_69 rfl ?_
          refine mg_iload (pc := 71) hC 0 dX4_take_71 rfl ?_
          refine mg_i2l (pc := 73) hC dX4_take_73 ?_
          refine mg_iload (pc := 74) hC 1 dX4_take_74 rfl ?_
          refine mg_i2l (pc := 76) hC dX4_take_76 ?_
          refine mg_cRL (pc := 77) (fun r hr => mg_S (rest := [.int v12]) hC wdX4_divisor mw_432 mw_431 dX4_take_77 rfl rfl ⟨Nat.le_of_ble_eq_true rfl, Nat.le_of_ble_eq_true rfl⟩ (Nat.le_of_ble_eq_true rfl) (kX4_divisor hr)) (fun v13 _ => ?_)
          refine mg_l2i (pc := 80) hC dX4_take_80 ?_
          refine mg_idiv (pc := 81) hC dX4_take_81 ?_
          refine mg_istore (pc := 82) hC [(6, .int (v12 / (v13.toInt32))), (5, .int v12), (4, .int v9), (3, .int v7), (0, .ref x0), (1, .int x1), (2, .int x2)] dX4_take_82 (by decide) rfl ?_
          refine mg_lconst (pc := 84) hC (0 : Int64) dX4_take_84 (by decide) ?_
          refine mg_lstore (pc := 85) hC [(7, .long (0 : Int64)), (6, .int (v12 / (v13.toInt32))), (5, .int v12), (4, .int v9), (3, .int v7), (0, .ref x0), (1, .int x1), (2, .int x2)] dX4_take_85 (by decide) rfl ?_
          refine mg_iconst (pc := 87) hC (1 : Int32) dX4_take_87 (by decide) ?_
          refine mg_istore (pc := 88) hC [(9, .int (1 : Int32)), (7, .long (0 : Int64)), (6, .int (v12 / (v13.toInt32))), (5, .int v12), (4, .int v9), (3, .int v7), (0, .ref x0), (1, .int x1), (2, .int x2)] dX4_take_88 (by decide) rfl ?_
          refine mg_iconst (pc := 90) hC (0 : Int32) dX4_take_90 (by decide) ?_
          refine mg_istore (pc := 91) hC [(10, .int (0 : Int32)), (9, .int (1 : Int32)), (7, .long (0 : Int64)), (6, .int (v12 / (v13.toInt32))), (5, .int v12), (4, .int v9), (3, .int v7), (0, .ref x0), (1, .int x1), (2, .int x2)] dX4_take_91 (by decide) rfl ?_
          exact mg_sub (pc := 93) [7, 9, 6, 5, 4, 3, 2, 1, 0] (L' := [(0, .ref x0), (2, .int x2), (3, .int v7), (4, .int v9), (5, .int v12), (6, .int (v12 / (v13.toInt32))), (7, .long (0 : Int64)), (9, .int (1 : Int32)), (10, .int (0 : Int32))]) rfl (gX4_take_b93 hC _  _ _ _ _ _ _ _ _ _ _ _ _ _)
        · refine mg_bipush (pc := 41) hC (-2 : Int32) dX4_take_41 (by decide) ?_
          exact mg_iret (pc := 43) hC rfl dX4_take_43
theorem wdX4_take : mg_WdV 4 yX4_take cX4_take 14 (some .int) 2 := ⟨⟨mw_632, mw_2, by decide, by decide, by decide +kernel⟩, _, rfl, mw_630, mw_631⟩
def fX4_isSheet (x0 : Int32) (x1 : Int32) : Option (Int32) := (fX4_in (x0.toInt64) (0 : Int64) (3 : Int64)).bind fun v1 => if v1 = 0 then (some (0 : Int32)) else ((fX4_in (x1.toInt64) (0 : Int64) (1 : Int64)).bind fun v2 => if v2 = 0 then (some (0 : Int32)) else (some (1 : Int32)))
set_option maxHeartbeats 4000000 in
set_option maxRecDepth 100000 in
theorem kX4_isSheet {E : mg_P} {l : Launch} {x0 : Int32} {x1 : Int32} {w : mg_H} {sz : Nat} {o : Int32} (hf : fX4_isSheet x0 x1 = some o) : mg_C E l yX4_isSheet cX4_isSheet 2 (some .boolean) 1 25 [.int x0, .int x1] w sz ((mg_oR mg_vI w) o) := by
  refine mg_meth (out := (mg_oR mg_vI w)) (by decide) (Nat.le_of_ble_eq_true rfl) hf ?_
  intro p e C S s m below meth c hC hin
  have hC : mg_Cx E p s m _ meth c cX4_isSheet 2 (some .boolean) RX4 := hC
  unfold fX4_isSheet
  refine mg_sub (pc := 0) [0, 1] (L' := [(0, .int x0), (1, .int x1)]) rfl ?_
  refine mg_iload_n (pc := 0) hC 0 dX4_isSheet_0 rfl ?_
  refine mg_i2l (pc := 1) hC dX4_isSheet_1 ?_
  refine mg_lconst (pc := 2) hC (0 : Int64) dX4_isSheet_2 (by decide) ?_
  refine mg_ldc2 (pc := 3) hC (3 : Int64) dX4_isSheet_3 mw_500 ?_
  refine mg_cRI (pc := 6) (fun r hr => mg_S (rest := []) hC wdX4_in mw_426 mw_425 dX4_isSheet_6 rfl rfl ⟨Nat.le_of_ble_eq_true rfl, Nat.le_of_ble_eq_true rfl⟩ (Nat.le_of_ble_eq_true rfl) (kX4_in hr)) (fun v1 _ => ?_)
  refine mg_if_eq (pc := 9) hC 26 dX4_isSheet_9 (by decide) (fun _ => ?_) (fun _ => ?_)
  · refine mg_iconst (pc := 26) hC (0 : Int32) dX4_isSheet_26 (by decide) ?_
    exact mg_zretC (pc := 27) hC (by decide) rfl dX4_isSheet_27
  · refine mg_iload_n (pc := 12) hC 1 dX4_isSheet_12 rfl ?_
    refine mg_i2l (pc := 13) hC dX4_isSheet_13 ?_
    refine mg_lconst (pc := 14) hC (0 : Int64) dX4_isSheet_14 (by decide) ?_
    refine mg_lconst (pc := 15) hC (1 : Int64) dX4_isSheet_15 (by decide) ?_
    refine mg_cRI (pc := 16) (fun r hr => mg_S (rest := []) hC wdX4_in mw_426 mw_425 dX4_isSheet_16 rfl rfl ⟨Nat.le_of_ble_eq_true rfl, Nat.le_of_ble_eq_true rfl⟩ (Nat.le_of_ble_eq_true rfl) (kX4_in hr)) (fun v2 _ => ?_)
    refine mg_if_eq (pc := 19) hC 26 dX4_isSheet_19 (by decide) (fun _ => ?_) (fun _ => ?_)
    · refine mg_iconst (pc := 26) hC (0 : Int32) dX4_isSheet_26 (by decide) ?_
      exact mg_zretC (pc := 27) hC (by decide) rfl dX4_isSheet_27
    · refine mg_iconst (pc := 22) hC (1 : Int32) dX4_isSheet_22 (by decide) ?_
      refine mg_goto (pc := 23) hC 27 dX4_isSheet_23 (by decide) ?_
      exact mg_zretC (pc := 27) hC (by decide) rfl dX4_isSheet_27
theorem wdX4_isSheet : mg_Wd yX4_isSheet cX4_isSheet 2 (some .boolean) 2 := ⟨mw_639, mw_2, by decide, by decide, by decide +kernel⟩
def fX4_sheet_b40 : Nat → Nat → Int32 → Int32 → mg_H → Option (Int32 × mg_H)
  | 0, _, _, _, _ => none
  | n + 1, x0, x1, x4, w => if (60 : Int32) ≤ x4 then (some ((1 : Int32), w)) else (mg_gN w 4 x0 10 fun v1 => (mg_stL w v1 (((60 : Int32) * x1) + x4) (0 : Int64)).bind fun w2 => fX4_sheet_b40 n x0 x1 (x4 + (1 : Int32)) w2)
set_option maxHeartbeats 4000000 in
set_option maxRecDepth 100000 in
theorem gX4_sheet_b40 (hC : mg_Cx E p s m args meth c cX4_sheet 5 (some .int) RX4) (sz : Nat) : ∀ (n : Nat) (x0 : Nat) (x1 : Int32) (x4 : Int32) (w : mg_H) (cells slots : Nat), mg_G E p l e ({ frames := 2, cells := C, slots := S, locals := 46 } : Room) s m args below meth c 5 (mg_oS mg_vI) (fX4_sheet_b40 n x0 x1 x4 w) w sz cells slots 40 [(0, .ref x0), (1, .int x1), (4, .int x4)] [] := by
  intro n
  induction n with
  | zero => intros; exact fun o hf => by rw [fX4_sheet_b40] at hf; cases hf
  | succ n ih =>
    intro x0 x1 x4 w cells slots
    rw [fX4_sheet_b40]
    refine mg_iload (pc := 40) hC 2 dX4_sheet_40 rfl ?_
    refine mg_bipush (pc := 42) hC (60 : Int32) dX4_sheet_42 (by decide) ?_
    refine mg_icmp_ge (pc := 44) hC 66 dX4_sheet_44 (by decide) (fun _ => ?_) (fun _ => ?_)
    · refine mg_iconst (pc := 66) hC (1 : Int32) dX4_sheet_66 (by decide) ?_
      exact mg_iret (pc := 67) hC rfl dX4_sheet_67
    · refine mg_aload_n (pc := 47) hC 0 dX4_sheet_47 rfl ?_
      refine mg_getNN (pc := 48) (ci := 4) (k := 10) hC mi_4 rfl (by decide) mw_455 dX4_sheet_48 (fun v1 _ => ?_)
      refine mg_bipush (pc := 51) hC (60 : Int32) dX4_sheet_51 (by decide) ?_
      refine mg_iload_n (pc := 53) hC 1 dX4_sheet_53 rfl ?_
      refine mg_imul (pc := 54) hC dX4_sheet_54 ?_
      refine mg_iload (pc := 55) hC 2 dX4_sheet_55 rfl ?_
      refine mg_iadd (pc := 57) hC dX4_sheet_57 ?_
      refine mg_lconst (pc := 58) hC (0 : Int64) dX4_sheet_58 (by decide) ?_
      refine mg_last (pc := 59) hC dX4_sheet_59 (fun w2 _ => ?_)
      refine mg_iinc (pc := 60) hC 2 (x4 + (1 : Int32)) [(4, .int (x4 + (1 : Int32))), (0, .ref x0), (1, .int x1)] dX4_sheet_60 rfl rfl (by decide) rfl ?_
      refine mg_goto (pc := 63) hC 40 dX4_sheet_63 (by decide) ?_
      exact mg_sub (pc := 40) [1, 2, 0] (L' := [(0, .ref x0), (1, .int x1), (4, .int (x4 + (1 : Int32)))]) rfl (ih _ _ _ _ _ _)
def fX4_sheet (x0 : Nat) (x1 : Int32) (x2 : Int32) (x3 : Int32) (w : mg_H) : Option (Int32 × mg_H) := (fX4_isSheet x1 x2).bind fun v1 => if v1 = 0 then (some ((-1 : Int32), w)) else (if x3 ≤ (60 : Int32) then (if 0 ≤ x3 then (mg_gN w 4 x0 8 fun v2 => (mg_stI w v2 x1 x2).bind fun w3 => mg_gN w3 4 x0 9 fun v4 => (mg_stI w3 v4 x1 x3).bind fun w5 => fX4_sheet_b40 mg_N x0 x1 (0 : Int32) w5) else (some ((-14 : Int32), w))) else (some ((-1 : Int32), w)))
set_option maxHeartbeats 4000000 in
set_option maxRecDepth 100000 in
theorem kX4_sheet {E : mg_P} {l : Launch} {x0 : Nat} {x1 : Int32} {x2 : Int32} {x3 : Int32} {w : mg_H} {sz : Nat} {o : Int32 × mg_H} (hf : fX4_sheet x0 x1 x2 x3 w = some o) : mg_C E l yX4_sheet cX4_sheet 5 (some .int) 2 46 [.ref x0, .int x1, .int x2, .int x3] w sz ((mg_oS mg_vI) o) := by
  refine mg_meth (out := (mg_oS mg_vI)) (by decide) (Nat.le_of_ble_eq_true rfl) hf ?_
  intro p e C S s m below meth c hC hin
  have hC : mg_Cx E p s m _ meth c cX4_sheet 5 (some .int) RX4 := hC
  unfold fX4_sheet
  refine mg_sub (pc := 0) [0, 1, 2, 3] (L' := [(0, .ref x0), (1, .int x1), (2, .int x2), (3, .int x3)]) rfl ?_
  refine mg_iload_n (pc := 0) hC 1 dX4_sheet_0 rfl ?_
  refine mg_iload_n (pc := 1) hC 2 dX4_sheet_1 rfl ?_
  refine mg_cRI (pc := 2) (fun r hr => mg_S (rest := []) hC wdX4_isSheet mw_638 mw_637 dX4_sheet_2 rfl rfl ⟨Nat.le_of_ble_eq_true rfl, Nat.le_of_ble_eq_true rfl⟩ (Nat.le_of_ble_eq_true rfl) (kX4_isSheet hr)) (fun v1 _ => ?_)
  refine mg_if_eq (pc := 5) hC 14 dX4_sheet_5 (by decide) (fun _ => ?_) (fun _ => ?_)
  · refine mg_iconst (pc := 14) hC (-1 : Int32) dX4_sheet_14 (by decide) ?_
    exact mg_iret (pc := 15) hC rfl dX4_sheet_15
  · refine mg_iload_n (pc := 8) hC 3 dX4_sheet_8 rfl ?_
    refine mg_bipush (pc := 9) hC (60 : Int32) dX4_sheet_9 (by decide) ?_
    refine mg_icmp_le (pc := 11) hC 16 dX4_sheet_11 (by decide) (fun _ => ?_) (fun _ => ?_)
    · refine mg_iload_n (pc := 16) hC 3 dX4_sheet_16 rfl ?_
      refine mg_if_ge (pc := 17) hC 23 dX4_sheet_17 (by decide) (fun _ => ?_) (fun _ => ?_)
      · refine mg_aload_n (pc := 23) hC 0 dX4_sheet_23 rfl ?_
        refine mg_getNN (pc := 24) (ci := 4) (k := 8) hC mi_4 rfl (by decide) mw_453 dX4_sheet_24 (fun v2 _ => ?_)
        refine mg_iload_n (pc := 27) hC 1 dX4_sheet_27 rfl ?_
        refine mg_iload_n (pc := 28) hC 2 dX4_sheet_28 rfl ?_
        refine mg_iast (pc := 29) hC dX4_sheet_29 (fun w3 _ => ?_)
        refine mg_aload_n (pc := 30) hC 0 dX4_sheet_30 rfl ?_
        refine mg_getNN (pc := 31) (ci := 4) (k := 9) hC mi_4 rfl (by decide) mw_454 dX4_sheet_31 (fun v4 _ => ?_)
        refine mg_iload_n (pc := 34) hC 1 dX4_sheet_34 rfl ?_
        refine mg_iload_n (pc := 35) hC 3 dX4_sheet_35 rfl ?_
        refine mg_iast (pc := 36) hC dX4_sheet_36 (fun w5 _ => ?_)
        refine mg_iconst (pc := 37) hC (0 : Int32) dX4_sheet_37 (by decide) ?_
        refine mg_istore (pc := 38) hC [(4, .int (0 : Int32)), (0, .ref x0), (1, .int x1), (2, .int x2), (3, .int x3)] dX4_sheet_38 (by decide) rfl ?_
        exact mg_sub (pc := 40) [1, 2, 0] (L' := [(0, .ref x0), (1, .int x1), (4, .int (0 : Int32))]) rfl (gX4_sheet_b40 hC _  _ _ _ _ _ _ _)
      · refine mg_bipush (pc := 20) hC (-14 : Int32) dX4_sheet_20 (by decide) ?_
        exact mg_iret (pc := 22) hC rfl dX4_sheet_22
    · refine mg_iconst (pc := 14) hC (-1 : Int32) dX4_sheet_14 (by decide) ?_
      exact mg_iret (pc := 15) hC rfl dX4_sheet_15
theorem wdX4_sheet : mg_WdV 4 yX4_sheet cX4_sheet 5 (some .int) 3 := ⟨⟨mw_636, mw_2, by decide, by decide, by decide +kernel⟩, _, rfl, mw_634, mw_635⟩
def fX4_lay (x0 : Nat) (x1 : Int32) (x2 : Int32) (x3 : Int64) (w : mg_H) : Option (Int32 × mg_H) := (fX4_isSheet x1 (0 : Int32)).bind fun v1 => if v1 = 0 then (some ((-1 : Int32), w)) else (mg_gN w 4 x0 8 fun v2 => (mg_ldI w 0 v2 x1).bind fun v3 => if v3 = (-4 : Int32) then (some ((-11 : Int32), w)) else (mg_gN w 4 x0 9 fun v4 => (mg_ldI w 0 v4 x1).bind fun v5 => (fX4_in (x2.toInt64) (0 : Int64) ((v5 - (1 : Int32)).toInt64)).bind fun v6 => if v6 = 0 then (some ((-12 : Int32), w)) else (mg_gN w 4 x0 10 fun v7 => mg_gN w 4 x0 8 fun v8 => (mg_ldI w 0 v8 x1).bind fun v9 => if v9 = 0 then ((mg_stL w v7 (((60 : Int32) * x1) + x2) ((x3.toInt32).toInt64)).bind fun w10 => some ((1 : Int32), w10)) else ((mg_stL w v7 (((60 : Int32) * x1) + x2) x3).bind fun w11 => some ((1 : Int32), w11)))))
set_option maxHeartbeats 4000000 in
set_option maxRecDepth 100000 in
theorem kX4_lay {E : mg_P} {l : Launch} {x0 : Nat} {x1 : Int32} {x2 : Int32} {x3 : Int64} {w : mg_H} {sz : Nat} {o : Int32 × mg_H} (hf : fX4_lay x0 x1 x2 x3 w = some o) : mg_C E l yX4_lay cX4_lay 5 (some .int) 2 46 [.ref x0, .int x1, .int x2, .long x3] w sz ((mg_oS mg_vI) o) := by
  refine mg_meth (out := (mg_oS mg_vI)) (by decide) (Nat.le_of_ble_eq_true rfl) hf ?_
  intro p e C S s m below meth c hC hin
  have hC : mg_Cx E p s m _ meth c cX4_lay 5 (some .int) RX4 := hC
  unfold fX4_lay
  refine mg_sub (pc := 0) [0, 1, 2, 3] (L' := [(0, .ref x0), (1, .int x1), (2, .int x2), (3, .long x3)]) rfl ?_
  refine mg_iload_n (pc := 0) hC 1 dX4_lay_0 rfl ?_
  refine mg_iconst (pc := 1) hC (0 : Int32) dX4_lay_1 (by decide) ?_
  refine mg_cRI (pc := 2) (fun r hr => mg_S (rest := []) hC wdX4_isSheet mw_638 mw_637 dX4_lay_2 rfl rfl ⟨Nat.le_of_ble_eq_true rfl, Nat.le_of_ble_eq_true rfl⟩ (Nat.le_of_ble_eq_true rfl) (kX4_isSheet hr)) (fun v1 _ => ?_)
  refine mg_if_ne (pc := 5) hC 10 dX4_lay_5 (by decide) (fun _ => ?_) (fun _ => ?_)
  · refine mg_iconst (pc := 8) hC (-1 : Int32) dX4_lay_8 (by decide) ?_
    exact mg_iret (pc := 9) hC rfl dX4_lay_9
  · refine mg_aload_n (pc := 10) hC 0 dX4_lay_10 rfl ?_
    refine mg_getNN (pc := 11) (ci := 4) (k := 8) hC mi_4 rfl (by decide) mw_453 dX4_lay_11 (fun v2 _ => ?_)
    refine mg_iload_n (pc := 14) hC 1 dX4_lay_14 rfl ?_
    refine mg_iald (pc := 15) hC dX4_lay_15 (fun v3 _ => ?_)
    refine mg_bipush (pc := 16) hC (-4 : Int32) dX4_lay_16 (by decide) ?_
    refine mg_icmp_ne (pc := 18) hC 24 dX4_lay_18 (by decide) (fun _ => ?_) (fun _ => ?_)
    · refine mg_bipush (pc := 21) hC (-11 : Int32) dX4_lay_21 (by decide) ?_
      exact mg_iret (pc := 23) hC rfl dX4_lay_23
    · refine mg_iload_n (pc := 24) hC 2 dX4_lay_24 rfl ?_
      refine mg_i2l (pc := 25) hC dX4_lay_25 ?_
      refine mg_lconst (pc := 26) hC (0 : Int64) dX4_lay_26 (by decide) ?_
      refine mg_aload_n (pc := 27) hC 0 dX4_lay_27 rfl ?_
      refine mg_getNN (pc := 28) (ci := 4) (k := 9) hC mi_4 rfl (by decide) mw_454 dX4_lay_28 (fun v4 _ => ?_)
      refine mg_iload_n (pc := 31) hC 1 dX4_lay_31 rfl ?_
      refine mg_iald (pc := 32) hC dX4_lay_32 (fun v5 _ => ?_)
      refine mg_iconst (pc := 33) hC (1 : Int32) dX4_lay_33 (by decide) ?_
      refine mg_isub (pc := 34) hC dX4_lay_34 ?_
      refine mg_i2l (pc := 35) hC dX4_lay_35 ?_
      refine mg_cRI (pc := 36) (fun r hr => mg_S (rest := []) hC wdX4_in mw_426 mw_425 dX4_lay_36 rfl rfl ⟨Nat.le_of_ble_eq_true rfl, Nat.le_of_ble_eq_true rfl⟩ (Nat.le_of_ble_eq_true rfl) (kX4_in hr)) (fun v6 _ => ?_)
      refine mg_if_ne (pc := 39) hC 45 dX4_lay_39 (by decide) (fun _ => ?_) (fun _ => ?_)
      · refine mg_bipush (pc := 42) hC (-12 : Int32) dX4_lay_42 (by decide) ?_
        exact mg_iret (pc := 44) hC rfl dX4_lay_44
      · refine mg_aload_n (pc := 45) hC 0 dX4_lay_45 rfl ?_
        refine mg_getNN (pc := 46) (ci := 4) (k := 10) hC mi_4 rfl (by decide) mw_455 dX4_lay_46 (fun v7 _ => ?_)
        refine mg_bipush (pc := 49) hC (60 : Int32) dX4_lay_49 (by decide) ?_
        refine mg_iload_n (pc := 51) hC 1 dX4_lay_51 rfl ?_
        refine mg_imul (pc := 52) hC dX4_lay_52 ?_
        refine mg_iload_n (pc := 53) hC 2 dX4_lay_53 rfl ?_
        refine mg_iadd (pc := 54) hC dX4_lay_54 ?_
        refine mg_aload_n (pc := 55) hC 0 dX4_lay_55 rfl ?_
        refine mg_getNN (pc := 56) (ci := 4) (k := 8) hC mi_4 rfl (by decide) mw_453 dX4_lay_56 (fun v8 _ => ?_)
        refine mg_iload_n (pc := 59) hC 1 dX4_lay_59 rfl ?_
        refine mg_iald (pc := 60) hC dX4_lay_60 (fun v9 _ => ?_)
        refine mg_if_ne (pc := 61) hC 70 dX4_lay_61 (by decide) (fun _ => ?_) (fun _ => ?_)
        · refine mg_lload_n (pc := 64) hC 3 dX4_lay_64 rfl ?_
          refine mg_l2i (pc := 65) hC dX4_lay_65 ?_
          refine mg_i2l (pc := 66) hC dX4_lay_66 ?_
          refine mg_goto (pc := 67) hC 71 dX4_lay_67 (by decide) ?_
          refine mg_last (pc := 71) hC dX4_lay_71 (fun w10 _ => ?_)
          refine mg_iconst (pc := 72) hC (1 : Int32) dX4_lay_72 (by decide) ?_
          exact mg_iret (pc := 73) hC rfl dX4_lay_73
        · refine mg_lload_n (pc := 70) hC 3 dX4_lay_70 rfl ?_
          refine mg_last (pc := 71) hC dX4_lay_71 (fun w11 _ => ?_)
          refine mg_iconst (pc := 72) hC (1 : Int32) dX4_lay_72 (by decide) ?_
          exact mg_iret (pc := 73) hC rfl dX4_lay_73
theorem wdX4_lay : mg_WdV 4 yX4_lay cX4_lay 5 (some .int) 3 := ⟨⟨mw_643, mw_2, by decide, by decide, by decide +kernel⟩, _, rfl, mw_641, mw_642⟩
def fX4_scan_b188 (x0 : Nat) (x6 : Int32) (s0 : Int32) (s1 : Nat) (w : mg_H) : Option (Int32 × mg_H) := (mg_pI w 4 s1 0 s0).bind fun w1 => if 0 ≤ x6 then ((mg_gI w1 4 x0 0).bind fun v2 => some (v2, w1)) else (some (x6, w1))
set_option maxHeartbeats 4000000 in
set_option maxRecDepth 100000 in
theorem gX4_scan_b188 (hC : mg_Cx E p s m args meth c cX4_scan 11 (some .int) RX4) (sz : Nat) (x0 : Nat) (x6 : Int32) (s0 : Int32) (s1 : Nat) (w : mg_H) (cells slots : Nat) : mg_G E p l e ({ frames := 2, cells := C, slots := S, locals := 54 } : Room) s m args below meth c 11 (mg_oS mg_vI) (fX4_scan_b188 x0 x6 s0 s1 w) w sz cells slots 188 [(0, .ref x0), (6, .int x6)] [.int s0, .ref s1] := by
  unfold fX4_scan_b188
  refine mg_putI (pc := 188) (ci := 4) (k := 0) hC mi_4 rfl (by decide) tyX4 tyX4_ok nmX4 mw_445 dX4_scan_188 (Or.inl rfl) rfl (fun w1 _ => ?_)
  refine mg_iload (pc := 191) hC 1 dX4_scan_191 rfl ?_
  refine mg_if_ge (pc := 193) hC 201 dX4_scan_193 (by decide) (fun _ => ?_) (fun _ => ?_)
  · refine mg_aload_n (pc := 201) hC 0 dX4_scan_201 rfl ?_
    refine mg_getI (pc := 202) (ci := 4) (k := 0) hC mi_4 rfl (by decide) mw_445 dX4_scan_202 (fun v2 _ => ?_)
    exact mg_iret (pc := 205) hC rfl dX4_scan_205
  · refine mg_iload (pc := 196) hC 1 dX4_scan_196 rfl ?_
    refine mg_goto (pc := 198) hC 205 dX4_scan_198 (by decide) ?_
    exact mg_iret (pc := 205) hC rfl dX4_scan_205
def fX4_scan_b173 (x0 : Nat) (x5 : Int32) (x6 : Int32) (w : mg_H) : Option (Int32 × mg_H) := if 0 ≤ x6 then ((mg_gI w 4 x0 0).bind fun v1 => fX4_scan_b188 x0 x6 v1 x0 w) else (fX4_scan_b188 x0 x6 x5 x0 w)
set_option maxHeartbeats 4000000 in
set_option maxRecDepth 100000 in
theorem gX4_scan_b173 (hC : mg_Cx E p s m args meth c cX4_scan 11 (some .int) RX4) (sz : Nat) (x0 : Nat) (x5 : Int32) (x6 : Int32) (w : mg_H) (cells slots : Nat) : mg_G E p l e ({ frames := 2, cells := C, slots := S, locals := 54 } : Room) s m args below meth c 11 (mg_oS mg_vI) (fX4_scan_b173 x0 x5 x6 w) w sz cells slots 173 [(0, .ref x0), (5, .int x5), (6, .int x6)] [] := by
  unfold fX4_scan_b173
  refine mg_aload_n (pc := 173) hC 0 dX4_scan_173 rfl ?_
  refine mg_iload (pc := 174) hC 2 dX4_scan_174 rfl ?_
  refine mg_if_ge (pc := 176) hC 184 dX4_scan_176 (by decide) (fun _ => ?_) (fun _ => ?_)
  · refine mg_aload_n (pc := 184) hC 0 dX4_scan_184 rfl ?_
    refine mg_getI (pc := 185) (ci := 4) (k := 0) hC mi_4 rfl (by decide) mw_445 dX4_scan_185 (fun v1 _ => ?_)
    exact mg_sub (pc := 188) [0, 2] (L' := [(0, .ref x0), (6, .int x6)]) rfl (gX4_scan_b188 hC _  _ _ _ _ _ _ _)
  · refine mg_iload (pc := 179) hC 1 dX4_scan_179 rfl ?_
    refine mg_goto (pc := 181) hC 188 dX4_scan_181 (by decide) ?_
    exact mg_sub (pc := 188) [0, 2] (L' := [(0, .ref x0), (6, .int x6)]) rfl (gX4_scan_b188 hC _  _ _ _ _ _ _ _)
def fX4_scan_b167 (r64 : Nat → Int32 → Int32 → Int32 → Int32 → Int32 → Int32 → mg_H → Option (Int32 × mg_H)) (x0 : Nat) (x1 : Int32) (x3 : Int32) (x4 : Int32) (x5 : Int32) (x6 : Int32) (x7 : Int32) (w : mg_H) : Option (Int32 × mg_H) := r64 x0 x1 x3 x4 x5 x6 (x7 + (1 : Int32)) w
set_option maxHeartbeats 4000000 in
set_option maxRecDepth 100000 in
theorem gX4_scan_b167 (hC : mg_Cx E p s m args meth c cX4_scan 11 (some .int) RX4) (sz : Nat) (r64 : Nat → Int32 → Int32 → Int32 → Int32 → Int32 → Int32 → mg_H → Option (Int32 × mg_H)) (hr64 : ∀ (z0 : Nat) (z1 : Int32) (z3 : Int32) (z4 : Int32) (z5 : Int32) (z6 : Int32) (z7 : Int32) (w : mg_H) (cells slots : Nat), mg_G E p l e ({ frames := 2, cells := C, slots := S, locals := 54 } : Room) s m args below meth c 11 (mg_oS mg_vI) (r64 z0 z1 z3 z4 z5 z6 z7 w) w sz cells slots 64 [(0, .ref z0), (1, .int z1), (3, .int z3), (4, .int z4), (5, .int z5), (6, .int z6), (7, .int z7)] []) (x0 : Nat) (x1 : Int32) (x3 : Int32) (x4 : Int32) (x5 : Int32) (x6 : Int32) (x7 : Int32) (w : mg_H) (cells slots : Nat) : mg_G E p l e ({ frames := 2, cells := C, slots := S, locals := 54 } : Room) s m args below meth c 11 (mg_oS mg_vI) (fX4_scan_b167 r64 x0 x1 x3 x4 x5 x6 x7 w) w sz cells slots 167 [(0, .ref x0), (1, .int x1), (3, .int x3), (4, .int x4), (5, .int x5), (6, .int x6), (7, .int x7)] [] := by
  unfold fX4_scan_b167
  refine mg_iinc (pc := 167) hC 6 (x7 + (1 : Int32)) [(7, .int (x7 + (1 : Int32))), (0, .ref x0), (1, .int x1), (3, .int x3), (4, .int x4), (5, .int x5), (6, .int x6)] dX4_scan_167 rfl rfl (by decide) rfl ?_
  refine mg_goto (pc := 170) hC 64 dX4_scan_170 (by decide) ?_
  exact mg_sub (pc := 64) [1, 2, 3, 4, 5, 6, 0] (L' := [(0, .ref x0), (1, .int x1), (3, .int x3), (4, .int x4), (5, .int x5), (6, .int x6), (7, .int (x7 + (1 : Int32)))]) rfl (hr64 _ _ _ _ _ _ _ _ _ _)
def fX4_scan_b110 (r64 : Nat → Int32 → Int32 → Int32 → Int32 → Int32 → Int32 → mg_H → Option (Int32 × mg_H)) (x0 : Nat) (x1 : Int32) (x3 : Int32) (x4 : Int32) (x5 : Int32) (x7 : Int32) (w : mg_H) : Option (Int32 × mg_H) := fX4_scan_b167 r64 x0 x1 x3 x4 x5 (-12 : Int32) x7 w
set_option maxHeartbeats 4000000 in
set_option maxRecDepth 100000 in
theorem gX4_scan_b110 (hC : mg_Cx E p s m args meth c cX4_scan 11 (some .int) RX4) (sz : Nat) (r64 : Nat → Int32 → Int32 → Int32 → Int32 → Int32 → Int32 → mg_H → Option (Int32 × mg_H)) (hr64 : ∀ (z0 : Nat) (z1 : Int32) (z3 : Int32) (z4 : Int32) (z5 : Int32) (z6 : Int32) (z7 : Int32) (w : mg_H) (cells slots : Nat), mg_G E p l e ({ frames := 2, cells := C, slots := S, locals := 54 } : Room) s m args below meth c 11 (mg_oS mg_vI) (r64 z0 z1 z3 z4 z5 z6 z7 w) w sz cells slots 64 [(0, .ref z0), (1, .int z1), (3, .int z3), (4, .int z4), (5, .int z5), (6, .int z6), (7, .int z7)] []) (x0 : Nat) (x1 : Int32) (x3 : Int32) (x4 : Int32) (x5 : Int32) (x7 : Int32) (w : mg_H) (cells slots : Nat) : mg_G E p l e ({ frames := 2, cells := C, slots := S, locals := 54 } : Room) s m args below meth c 11 (mg_oS mg_vI) (fX4_scan_b110 r64 x0 x1 x3 x4 x5 x7 w) w sz cells slots 110 [(0, .ref x0), (1, .int x1), (3, .int x3), (4, .int x4), (5, .int x5), (7, .int x7)] [] := by
  unfold fX4_scan_b110
  refine mg_bipush (pc := 110) hC (-12 : Int32) dX4_scan_110 (by decide) ?_
  refine mg_istore (pc := 112) hC [(6, .int (-12 : Int32)), (0, .ref x0), (1, .int x1), (3, .int x3), (4, .int x4), (5, .int x5), (7, .int x7)] dX4_scan_112 (by decide) rfl ?_
  refine mg_goto (pc := 114) hC 167 dX4_scan_114 (by decide) ?_
  exact mg_sub (pc := 167) [1, 2, 3, 4, 5, 0, 6] (L' := [(0, .ref x0), (1, .int x1), (3, .int x3), (4, .int x4), (5, .int x5), (6, .int (-12 : Int32)), (7, .int x7)]) rfl (gX4_scan_b167 hC _ _ hr64 _ _ _ _ _ _ _ _ _ _)
def fX4_scan_b165 (r64 : Nat → Int32 → Int32 → Int32 → Int32 → Int32 → Int32 → mg_H → Option (Int32 × mg_H)) (x0 : Nat) (x1 : Int32) (x3 : Int32) (x4 : Int32) (x5 : Int32) (x7 : Int32) (s0 : Int32) (w : mg_H) : Option (Int32 × mg_H) := fX4_scan_b167 r64 x0 x1 x3 x4 x5 s0 x7 w
set_option maxHeartbeats 4000000 in
set_option maxRecDepth 100000 in
theorem gX4_scan_b165 (hC : mg_Cx E p s m args meth c cX4_scan 11 (some .int) RX4) (sz : Nat) (r64 : Nat → Int32 → Int32 → Int32 → Int32 → Int32 → Int32 → mg_H → Option (Int32 × mg_H)) (hr64 : ∀ (z0 : Nat) (z1 : Int32) (z3 : Int32) (z4 : Int32) (z5 : Int32) (z6 : Int32) (z7 : Int32) (w : mg_H) (cells slots : Nat), mg_G E p l e ({ frames := 2, cells := C, slots := S, locals := 54 } : Room) s m args below meth c 11 (mg_oS mg_vI) (r64 z0 z1 z3 z4 z5 z6 z7 w) w sz cells slots 64 [(0, .ref z0), (1, .int z1), (3, .int z3), (4, .int z4), (5, .int z5), (6, .int z6), (7, .int z7)] []) (x0 : Nat) (x1 : Int32) (x3 : Int32) (x4 : Int32) (x5 : Int32) (x7 : Int32) (s0 : Int32) (w : mg_H) (cells slots : Nat) : mg_G E p l e ({ frames := 2, cells := C, slots := S, locals := 54 } : Room) s m args below meth c 11 (mg_oS mg_vI) (fX4_scan_b165 r64 x0 x1 x3 x4 x5 x7 s0 w) w sz cells slots 165 [(0, .ref x0), (1, .int x1), (3, .int x3), (4, .int x4), (5, .int x5), (7, .int x7)] [.int s0] := by
  unfold fX4_scan_b165
  refine mg_istore (pc := 165) hC [(6, .int s0), (0, .ref x0), (1, .int x1), (3, .int x3), (4, .int x4), (5, .int x5), (7, .int x7)] dX4_scan_165 (by decide) rfl ?_
  exact mg_sub (pc := 167) [1, 2, 3, 4, 5, 0, 6] (L' := [(0, .ref x0), (1, .int x1), (3, .int x3), (4, .int x4), (5, .int x5), (6, .int s0), (7, .int x7)]) rfl (gX4_scan_b167 hC _ _ hr64 _ _ _ _ _ _ _ _ _ _)
def fX4_scan_b64 : Nat → Nat → Int32 → Int32 → Int32 → Int32 → Int32 → Int32 → mg_H → Option (Int32 × mg_H)
  | 0, _, _, _, _, _, _, _, _ => none
  | n + 1, x0, x1, x3, x4, x5, x6, x7, w => if x4 ≤ x7 then (fX4_scan_b173 x0 x5 x6 w) else (if x6 = 0 then (if (lg_cmp ((x3.toInt64) + (((2 : Int32) * x7).toInt64)) (0 : Int64)) < 0 then (fX4_scan_b110 (fX4_scan_b64 n) x0 x1 x3 x4 x5 x7 w) else (mg_gN w 4 x0 9 fun v1 => (mg_ldI w 0 v1 x1).bind fun v2 => if (lg_cmp (((x3.toInt64) + (((2 : Int32) * x7).toInt64)) + (2 : Int64)) (v2.toInt64)) ≤ 0 then (mg_gN w 4 x0 10 fun v3 => (mg_ldL w v3 (((60 : Int32) * x1) + (((x3.toInt64) + (((2 : Int32) * x7).toInt64)).toInt32))).bind fun v4 => mg_gN w 4 x0 10 fun v5 => (mg_ldL w v5 ((((60 : Int32) * x1) + (((x3.toInt64) + (((2 : Int32) * x7).toInt64)).toInt32)) + (1 : Int32))).bind fun v6 => mg_rc w 4 x0 (mg_bS (fX4_angle x0 v4 v6 w) fun v7 w8 => if 0 ≤ v7 then (fX4_scan_b165 (fX4_scan_b64 n) x0 x1 x3 x4 x5 x7 (0 : Int32) w8) else (fX4_scan_b165 (fX4_scan_b64 n) x0 x1 x3 x4 x5 x7 ((-20 : Int32) + v7) w8))) else (fX4_scan_b110 (fX4_scan_b64 n) x0 x1 x3 x4 x5 x7 w))) else (fX4_scan_b173 x0 x5 x6 w))
set_option maxHeartbeats 4000000 in
set_option maxRecDepth 100000 in
theorem gX4_scan_b64 (hC : mg_Cx E p s m args meth c cX4_scan 11 (some .int) RX4) (sz : Nat) : ∀ (n : Nat) (x0 : Nat) (x1 : Int32) (x3 : Int32) (x4 : Int32) (x5 : Int32) (x6 : Int32) (x7 : Int32) (w : mg_H) (cells slots : Nat), mg_G E p l e ({ frames := 2, cells := C, slots := S, locals := 54 } : Room) s m args below meth c 11 (mg_oS mg_vI) (fX4_scan_b64 n x0 x1 x3 x4 x5 x6 x7 w) w sz cells slots 64 [(0, .ref x0), (1, .int x1), (3, .int x3), (4, .int x4), (5, .int x5), (6, .int x6), (7, .int x7)] [] := by
  intro n
  induction n with
  | zero => intros; exact fun o hf => by rw [fX4_scan_b64] at hf; cases hf
  | succ n ih =>
    intro x0 x1 x3 x4 x5 x6 x7 w cells slots
    rw [fX4_scan_b64]
    refine mg_iload (pc := 64) hC 6 dX4_scan_64 rfl ?_
    refine mg_iload (pc := 66) hC 3 dX4_scan_66 rfl ?_
    refine mg_icmp_ge (pc := 68) hC 173 dX4_scan_68 (by decide) (fun _ => ?_) (fun _ => ?_)
    · exact mg_sub (pc := 173) [0, 4, 5] (L' := [(0, .ref x0), (5, .int x5), (6, .int x6)]) rfl (gX4_scan_b173 hC _  _ _ _ _ _ _)
    · refine mg_iload (pc := 71) hC 5 dX4_scan_71 rfl ?_
      refine mg_if_ne (pc := 73) hC 173 dX4_scan_73 (by decide) (fun _ => ?_) (fun _ => ?_)
      · refine mg_iload_n (pc := 76) hC 2 dX4_scan_76 rfl ?_
        refine mg_i2l (pc := 77) hC dX4_scan_77 ?_
        refine mg_iconst (pc := 78) hC (2 : Int32) dX4_scan_78 (by decide) ?_
        refine mg_iload (pc := 79) hC 6 dX4_scan_79 rfl ?_
        refine mg_imul (pc := 81) hC dX4_scan_81 ?_
        refine mg_i2l (pc := 82) hC dX4_scan_82 ?_
        refine mg_ladd (pc := 83) hC dX4_scan_83 ?_
        refine mg_lstore (pc := 84) hC [(8, .long ((x3.toInt64) + (((2 : Int32) * x7).toInt64))), (0, .ref x0), (1, .int x1), (3, .int x3), (4, .int x4), (5, .int x5), (6, .int x6), (7, .int x7)] dX4_scan_84 (by decide) rfl ?_
        refine mg_lload (pc := 86) hC 0 dX4_scan_86 rfl ?_
        refine mg_lconst (pc := 88) hC (0 : Int64) dX4_scan_88 (by decide) ?_
        refine mg_lcmp (pc := 89) hC dX4_scan_89 ?_
        refine mg_if_lt (pc := 90) hC 110 dX4_scan_90 (by decide) (fun _ => ?_) (fun _ => ?_)
        · exact mg_sub (pc := 110) [1, 2, 3, 4, 5, 7] (L' := [(0, .ref x0), (1, .int x1), (3, .int x3), (4, .int x4), (5, .int x5), (7, .int x7)]) rfl (gX4_scan_b110 hC _ _ ih _ _ _ _ _ _ _ _ _)
        · refine mg_lload (pc := 93) hC 0 dX4_scan_93 rfl ?_
          refine mg_ldc2 (pc := 95) hC (2 : Int64) dX4_scan_95 mw_437 ?_
          refine mg_ladd (pc := 98) hC dX4_scan_98 ?_
          refine mg_aload_n (pc := 99) hC 1 dX4_scan_99 rfl ?_
          refine mg_getNN (pc := 100) (ci := 4) (k := 9) hC mi_4 rfl (by decide) mw_454 dX4_scan_100 (fun v1 _ => ?_)
          refine mg_iload_n (pc := 103) hC 2 dX4_scan_103 rfl ?_
          refine mg_iald (pc := 104) hC dX4_scan_104 (fun v2 _ => ?_)
          refine mg_i2l (pc := 105) hC dX4_scan_105 ?_
          refine mg_lcmp (pc := 106) hC dX4_scan_106 ?_
          refine mg_if_le (pc := 107) hC 117 dX4_scan_107 (by decide) (fun _ => ?_) (fun _ => ?_)
          · refine mg_aload_n (pc := 117) hC 1 dX4_scan_117 rfl ?_
            refine mg_aload_n (pc := 118) hC 1 dX4_scan_118 rfl ?_
            refine mg_getNN (pc := 119) (ci := 4) (k := 10) hC mi_4 rfl (by decide) mw_455 dX4_scan_119 (fun v3 _ => ?_)
            refine mg_bipush (pc := 122) hC (60 : Int32) dX4_scan_122 (by decide) ?_
            refine mg_iload_n (pc := 124) hC 2 dX4_scan_124 rfl ?_
            refine mg_imul (pc := 125) hC dX4_scan_125 ?_
            refine mg_lload (pc := 126) hC 0 dX4_scan_126 rfl ?_
            refine mg_l2i (pc := 128) hC dX4_scan_128 ?_
            refine mg_iadd (pc := 129) hC dX4_scan_129 ?_
            refine mg_lald (pc := 130) hC dX4_scan_130 (fun v4 _ => ?_)
            refine mg_aload_n (pc := 131) hC 1 dX4_scan_131 rfl ?_
            refine mg_getNN (pc := 132) (ci := 4) (k := 10) hC mi_4 rfl (by decide) mw_455 dX4_scan_132 (fun v5 _ => ?_)
            refine mg_bipush (pc := 135) hC (60 : Int32) dX4_scan_135 (by decide) ?_
            refine mg_iload_n (pc := 137) hC 2 dX4_scan_137 rfl ?_
            refine mg_imul (pc := 138) hC dX4_scan_138 ?_
            refine mg_lload (pc := 139) hC 0 dX4_scan_139 rfl ?_
            refine mg_l2i (pc := 141) hC dX4_scan_141 ?_
            refine mg_iadd (pc := 142) hC dX4_scan_142 ?_
            refine mg_iconst (pc := 143) hC (1 : Int32) dX4_scan_143 (by decide) ?_
            refine mg_iadd (pc := 144) hC dX4_scan_144 ?_
            refine mg_lald (pc := 145) hC dX4_scan_145 (fun v6 _ => ?_)
            refine mg_recv (ci := 4) (fun hb => ?_)
            refine mg_cSI (pc := 146) (fun r hr => mg_VR (rest := []) (av := [.long v4, .long v6]) (ci := 4) hC wdX4_angle mw_649 dX4_scan_146 rfl rfl ⟨Nat.le_of_ble_eq_true rfl, Nat.le_of_ble_eq_true rfl⟩ (Nat.le_of_ble_eq_true rfl) hb (kX4_angle hr)) (fun v7 w8 _ => ?_)
            refine mg_istore (pc := 149) hC [(10, .int v7), (8, .long ((x3.toInt64) + (((2 : Int32) * x7).toInt64))), (0, .ref x0), (1, .int x1), (3, .int x3), (4, .int x4), (5, .int x5), (6, .int x6), (7, .int x7)] dX4_scan_149 (by decide) rfl ?_
            refine mg_iload (pc := 151) hC 0 dX4_scan_151 rfl ?_
            refine mg_if_ge (pc := 153) hC 164 dX4_scan_153 (by decide) (fun _ => ?_) (fun _ => ?_)
            · refine mg_iconst (pc := 164) hC (0 : Int32) dX4_scan_164 (by decide) ?_
              exact mg_sub (pc := 165) [2, 3, 4, 5, 6, 8] (L' := [(0, .ref x0), (1, .int x1), (3, .int x3), (4, .int x4), (5, .int x5), (7, .int x7)]) rfl (gX4_scan_b165 hC _ _ ih _ _ _ _ _ _ _ _ _ _)
            · refine mg_bipush (pc := 156) hC (-20 : Int32) dX4_scan_156 (by decide) ?_
              refine mg_iload (pc := 158) hC 0 dX4_scan_158 rfl ?_
              refine mg_iadd (pc := 160) hC dX4_scan_160 ?_
              refine mg_goto (pc := 161) hC 165 dX4_scan_161 (by decide) ?_
              exact mg_sub (pc := 165) [2, 3, 4, 5, 6, 8] (L' := [(0, .ref x0), (1, .int x1), (3, .int x3), (4, .int x4), (5, .int x5), (7, .int x7)]) rfl (gX4_scan_b165 hC _ _ ih _ _ _ _ _ _ _ _ _ _)
          · exact mg_sub (pc := 110) [1, 2, 3, 4, 5, 7] (L' := [(0, .ref x0), (1, .int x1), (3, .int x3), (4, .int x4), (5, .int x5), (7, .int x7)]) rfl (gX4_scan_b110 hC _ _ ih _ _ _ _ _ _ _ _ _)
      · exact mg_sub (pc := 173) [0, 4, 5] (L' := [(0, .ref x0), (5, .int x5), (6, .int x6)]) rfl (gX4_scan_b173 hC _  _ _ _ _ _ _)
def fX4_scan (x0 : Nat) (x1 : Int32) (x2 : Int32) (x3 : Int32) (x4 : Int32) (w : mg_H) : Option (Int32 × mg_H) := (fX4_isSheet x1 x2).bind fun v1 => if v1 = 0 then (some ((-1 : Int32), w)) else ((fX4_in (x4.toInt64) (0 : Int64) (16 : Int64)).bind fun v2 => if v2 = 0 then (some ((-1 : Int32), w)) else (mg_gN w 4 x0 8 fun v3 => (mg_ldI w 0 v3 x1).bind fun v4 => if v4 = x2 then ((mg_gI w 4 x0 0).bind fun v5 => fX4_scan_b64 mg_N x0 x1 x3 x4 v5 (0 : Int32) (0 : Int32) w) else (mg_gN w 4 x0 8 fun v6 => (mg_ldI w 0 v6 x1).bind fun v7 => if v7 = (-4 : Int32) then (some ((-11 : Int32), w)) else (some ((-13 : Int32), w)))))
set_option maxHeartbeats 4000000 in
set_option maxRecDepth 100000 in
theorem kX4_scan {E : mg_P} {l : Launch} {x0 : Nat} {x1 : Int32} {x2 : Int32} {x3 : Int32} {x4 : Int32} {w : mg_H} {sz : Nat} {o : Int32 × mg_H} (hf : fX4_scan x0 x1 x2 x3 x4 w = some o) : mg_C E l yX4_scan cX4_scan 11 (some .int) 2 54 [.ref x0, .int x1, .int x2, .int x3, .int x4] w sz ((mg_oS mg_vI) o) := by
  refine mg_meth (out := (mg_oS mg_vI)) (by decide) (Nat.le_of_ble_eq_true rfl) hf ?_
  intro p e C S s m below meth c hC hin
  have hC : mg_Cx E p s m _ meth c cX4_scan 11 (some .int) RX4 := hC
  unfold fX4_scan
  refine mg_sub (pc := 0) [0, 1, 2, 3, 4] (L' := [(0, .ref x0), (1, .int x1), (2, .int x2), (3, .int x3), (4, .int x4)]) rfl ?_
  refine mg_iload_n (pc := 0) hC 1 dX4_scan_0 rfl ?_
  refine mg_iload_n (pc := 1) hC 2 dX4_scan_1 rfl ?_
  refine mg_cRI (pc := 2) (fun r hr => mg_S (rest := []) hC wdX4_isSheet mw_638 mw_637 dX4_scan_2 rfl rfl ⟨Nat.le_of_ble_eq_true rfl, Nat.le_of_ble_eq_true rfl⟩ (Nat.le_of_ble_eq_true rfl) (kX4_isSheet hr)) (fun v1 _ => ?_)
  refine mg_if_eq (pc := 5) hC 21 dX4_scan_5 (by decide) (fun _ => ?_) (fun _ => ?_)
  · refine mg_iconst (pc := 21) hC (-1 : Int32) dX4_scan_21 (by decide) ?_
    exact mg_iret (pc := 22) hC rfl dX4_scan_22
  · refine mg_iload (pc := 8) hC 4 dX4_scan_8 rfl ?_
    refine mg_i2l (pc := 10) hC dX4_scan_10 ?_
    refine mg_lconst (pc := 11) hC (0 : Int64) dX4_scan_11 (by decide) ?_
    refine mg_ldc2 (pc := 12) hC (16 : Int64) dX4_scan_12 mw_648 ?_
    refine mg_cRI (pc := 15) (fun r hr => mg_S (rest := []) hC wdX4_in mw_426 mw_425 dX4_scan_15 rfl rfl ⟨Nat.le_of_ble_eq_true rfl, Nat.le_of_ble_eq_true rfl⟩ (Nat.le_of_ble_eq_true rfl) (kX4_in hr)) (fun v2 _ => ?_)
    refine mg_if_ne (pc := 18) hC 23 dX4_scan_18 (by decide) (fun _ => ?_) (fun _ => ?_)
    · refine mg_iconst (pc := 21) hC (-1 : Int32) dX4_scan_21 (by decide) ?_
      exact mg_iret (pc := 22) hC rfl dX4_scan_22
    · refine mg_aload_n (pc := 23) hC 0 dX4_scan_23 rfl ?_
      refine mg_getNN (pc := 24) (ci := 4) (k := 8) hC mi_4 rfl (by decide) mw_453 dX4_scan_24 (fun v3 _ => ?_)
      refine mg_iload_n (pc := 27) hC 1 dX4_scan_27 rfl ?_
      refine mg_iald (pc := 28) hC dX4_scan_28 (fun v4 _ => ?_)
      refine mg_iload_n (pc := 29) hC 2 dX4_scan_29 rfl ?_
      refine mg_icmp_eq (pc := 30) hC 52 dX4_scan_30 (by decide) (fun _ => ?_) (fun _ => ?_)
      · refine mg_aload_n (pc := 52) hC 0 dX4_scan_52 rfl ?_
        refine mg_getI (pc := 53) (ci := 4) (k := 0) hC mi_4 rfl (by decide) mw_445 dX4_scan_53 (fun v5 _ => ?_)
        refine mg_istore (pc := 56) hC [(5, .int v5), (0, .ref x0), (1, .int x1), (2, .int x2), (3, .int x3), (4, .int x4)] dX4_scan_56 (by decide) rfl ?_
        refine mg_iconst (pc := 58) hC (0 : Int32) dX4_scan_58 (by decide) ?_
        refine mg_istore (pc := 59) hC [(6, .int (0 : Int32)), (5, .int v5), (0, .ref x0), (1, .int x1), (2, .int x2), (3, .int x3), (4, .int x4)] dX4_scan_59 (by decide) rfl ?_
        refine mg_iconst (pc := 61) hC (0 : Int32) dX4_scan_61 (by decide) ?_
        refine mg_istore (pc := 62) hC [(7, .int (0 : Int32)), (6, .int (0 : Int32)), (5, .int v5), (0, .ref x0), (1, .int x1), (2, .int x2), (3, .int x3), (4, .int x4)] dX4_scan_62 (by decide) rfl ?_
        exact mg_sub (pc := 64) [3, 4, 6, 7, 2, 1, 0] (L' := [(0, .ref x0), (1, .int x1), (3, .int x3), (4, .int x4), (5, .int v5), (6, .int (0 : Int32)), (7, .int (0 : Int32))]) rfl (gX4_scan_b64 hC _  _ _ _ _ _ _ _ _ _ _ _)
      · refine mg_aload_n (pc := 33) hC 0 dX4_scan_33 rfl ?_
        refine mg_getNN (pc := 34) (ci := 4) (k := 8) hC mi_4 rfl (by decide) mw_453 dX4_scan_34 (fun v6 _ => ?_)
        refine mg_iload_n (pc := 37) hC 1 dX4_scan_37 rfl ?_
        refine mg_iald (pc := 38) hC dX4_scan_38 (fun v7 _ => ?_)
        refine mg_bipush (pc := 39) hC (-4 : Int32) dX4_scan_39 (by decide) ?_
        refine mg_icmp_ne (pc := 41) hC 49 dX4_scan_41 (by decide) (fun _ => ?_) (fun _ => ?_)
        · refine mg_bipush (pc := 44) hC (-11 : Int32) dX4_scan_44 (by decide) ?_
          refine mg_goto (pc := 46) hC 51 dX4_scan_46 (by decide) ?_
          exact mg_iret (pc := 51) hC rfl dX4_scan_51
        · refine mg_bipush (pc := 49) hC (-13 : Int32) dX4_scan_49 (by decide) ?_
          exact mg_iret (pc := 51) hC rfl dX4_scan_51
theorem wdX4_scan : mg_WdV 4 yX4_scan cX4_scan 11 (some .int) 4 := ⟨⟨mw_647, mw_2, by decide, by decide, by decide +kernel⟩, _, rfl, mw_645, mw_646⟩
end MG12
