section MGL
variable {E : mg_P} {p : Program} {l : Launch} {e : Env} {C S : Nat} {s : State} {m : MethodId} {args : Array Value} {below : List Frame} {meth : Method} {c : Code}
def fL_law_b1096 (xs : Nat → Int32) (Ls : Nat) (r18 : Nat → Nat → Int32 → mg_H → Nat → Option (Int32 × mg_H × Nat × Nat)) (x1 : Nat) (x2 : Nat) (x3 : Int32) (w : mg_H) (sz : Nat) : Option (Int32 × mg_H × Nat × Nat) := r18 x1 x2 (x3 + (5 : Int32)) w sz
set_option maxHeartbeats 4000000 in
set_option maxRecDepth 100000 in
theorem gL_law_b1096 (hC : mg_Cx E p s m args meth c cL_law 4 (some .boolean) RL) {b Ls : Nat} {xs : Nat → Int32} (hX : mg_X E b Ls xs s) (r18 : Nat → Nat → Int32 → mg_H → Nat → Option (Int32 × mg_H × Nat × Nat)) (hr18 : ∀ (z1 : Nat) (z2 : Nat) (z3 : Int32) (w : mg_H) (sz cells slots : Nat), mg_G E p l e ({ frames := 10, cells := C, slots := S, locals := 384 } : Room) s m args below meth c 4 (mg_oA mg_vI) (r18 z1 z2 z3 w sz) w sz cells slots 18 [(0, .ref b), (1, .ref z1), (2, .ref z2), (3, .int z3)] []) (x1 : Nat) (x2 : Nat) (x3 : Int32) (w : mg_H) (sz : Nat) (cells slots : Nat) : mg_G E p l e ({ frames := 10, cells := C, slots := S, locals := 384 } : Room) s m args below meth c 4 (mg_oA mg_vI) (fL_law_b1096 xs Ls r18 x1 x2 x3 w sz) w sz cells slots 1096 [(0, .ref b), (1, .ref x1), (2, .ref x2), (3, .int x3)] [] := by
  unfold fL_law_b1096
  refine mg_iinc (pc := 1096) hC 3 (x3 + (5 : Int32)) [(3, .int (x3 + (5 : Int32))), (0, .ref b), (1, .ref x1), (2, .ref x2)] dL_law_1096 rfl rfl (by decide) rfl ?_
  refine mg_goto (pc := 1099) hC 18 dL_law_1099 (by decide) ?_
  exact mg_sub (pc := 18) [1, 2, 3, 0] (L' := [(0, .ref b), (1, .ref x1), (2, .ref x2), (3, .int (x3 + (5 : Int32)))]) rfl (hr18 _ _ _ _ _ _ _)
def fL_law_b18 (xs : Nat → Int32) (Ls : Nat) : Nat → Nat → Nat → Int32 → mg_H → Nat → Option (Int32 × mg_H × Nat × Nat)
  | 0, _, _, _, _, _ => none
  | n + 1, x1, x2, x3, w, sz => if ((Int32.ofNat Ls) - (5 : Int32)) < x3 then (some ((1 : Int32), w, 0, 0)) else ((mg_sc xs Ls x3).bind fun v1 => if (v1 &&& (31 : Int32)) = (0 : Int32) then ((mg_sc xs Ls (x3 + (1 : Int32))).bind fun v2 => (mg_sc xs Ls (x3 + (2 : Int32))).bind fun v3 => (mg_sc xs Ls (x3 + (3 : Int32))).bind fun v4 => (mg_sc xs Ls (x3 + (4 : Int32))).bind fun v5 => mg_rc w 3 x1 (mg_bA (fX3_angle x1 (((v2.toInt64) <<< ((32 : Int32).toInt64 &&& 63)) ||| ((v3.toInt64) &&& (4294967295 : Int64))) (((v4.toInt64) <<< ((32 : Int32).toInt64 &&& 63)) ||| ((v5.toInt64) &&& (4294967295 : Int64))) w sz) fun v6 w7 kc8 ks9 => (mg_sc xs Ls (x3 + (1 : Int32))).bind fun v10 => (mg_sc xs Ls (x3 + (2 : Int32))).bind fun v11 => (mg_sc xs Ls (x3 + (3 : Int32))).bind fun v12 => (mg_sc xs Ls (x3 + (4 : Int32))).bind fun v13 => mg_rc w7 4 x2 (mg_bS (fX4_angle x2 (((v10.toInt64) <<< ((32 : Int32).toInt64 &&& 63)) ||| ((v11.toInt64) &&& (4294967295 : Int64))) (((v12.toInt64) <<< ((32 : Int32).toInt64 &&& 63)) ||| ((v13.toInt64) &&& (4294967295 : Int64))) w7) fun v14 w15 => if v6 = v14 then (fL_law_b1096 xs Ls (fL_law_b18 xs Ls n) x1 x2 x3 w15 (sz + kc8)) else (some ((0 : Int32), w15, 0, 0))))) else (if (v1 &&& (31 : Int32)) = (1 : Int32) then (mg_rc w 3 x1 (mg_bS (fX3_drop x1 w) fun v16 w17 => mg_rc w17 4 x2 (mg_bS (fX4_drop x2 w17) fun v18 w19 => if v16 = v18 then (fL_law_b1096 xs Ls (fL_law_b18 xs Ls n) x1 x2 x3 w19 sz) else (some ((0 : Int32), w19, 0, 0))))) else (if (v1 &&& (31 : Int32)) = (2 : Int32) then ((mg_sc xs Ls (x3 + (1 : Int32))).bind fun v20 => (mg_sc xs Ls (x3 + (2 : Int32))).bind fun v21 => mg_rc w 3 x1 ((fX3_told x1 v20 v21 w).bind fun v22 => (mg_sc xs Ls (x3 + (1 : Int32))).bind fun v23 => (mg_sc xs Ls (x3 + (2 : Int32))).bind fun v24 => mg_rc w 4 x2 ((fX4_told x2 v23 v24 w).bind fun v25 => if v22 = v25 then (fL_law_b1096 xs Ls (fL_law_b18 xs Ls n) x1 x2 x3 w sz) else (some ((0 : Int32), w, 0, 0))))) else (if (v1 &&& (31 : Int32)) = (3 : Int32) then ((mg_sc xs Ls (x3 + (1 : Int32))).bind fun v26 => (mg_sc xs Ls (x3 + (2 : Int32))).bind fun v27 => (mg_sc xs Ls (x3 + (3 : Int32))).bind fun v28 => mg_rc w 3 x1 ((fX3_doubled x1 v26 v27 v28 w).bind fun v29 => (mg_sc xs Ls (x3 + (1 : Int32))).bind fun v30 => (mg_sc xs Ls (x3 + (2 : Int32))).bind fun v31 => (mg_sc xs Ls (x3 + (3 : Int32))).bind fun v32 => mg_rc w 4 x2 ((fX4_doubled x2 v30 v31 v32 w).bind fun v33 => if v29 = v33 then (fL_law_b1096 xs Ls (fL_law_b18 xs Ls n) x1 x2 x3 w sz) else (some ((0 : Int32), w, 0, 0))))) else (if (v1 &&& (31 : Int32)) = (4 : Int32) then ((mg_sc xs Ls (x3 + (1 : Int32))).bind fun v34 => mg_rc w 3 x1 (mg_bS (fX3_all x1 v34 w) fun v35 w36 => (mg_sc xs Ls (x3 + (1 : Int32))).bind fun v37 => mg_rc w36 4 x2 ((fX4_all x2 v37).bind fun v38 => if v35 = v38 then (fL_law_b1096 xs Ls (fL_law_b18 xs Ls n) x1 x2 x3 w36 sz) else (some ((0 : Int32), w36, 0, 0))))) else (if (v1 &&& (31 : Int32)) = (5 : Int32) then ((mg_sc xs Ls (x3 + (1 : Int32))).bind fun v39 => (mg_sc xs Ls (x3 + (2 : Int32))).bind fun v40 => (mg_sc xs Ls (x3 + (3 : Int32))).bind fun v41 => mg_rc w 3 x1 ((fX3_letter x1 v39 v40 v41 w).bind fun v42 => (mg_sc xs Ls (x3 + (1 : Int32))).bind fun v43 => (mg_sc xs Ls (x3 + (2 : Int32))).bind fun v44 => (mg_sc xs Ls (x3 + (3 : Int32))).bind fun v45 => mg_rc w 4 x2 ((fX4_letter x2 v43 v44 v45 w).bind fun v46 => if v42 = v46 then (fL_law_b1096 xs Ls (fL_law_b18 xs Ls n) x1 x2 x3 w sz) else (some ((0 : Int32), w, 0, 0))))) else (if (v1 &&& (31 : Int32)) = (6 : Int32) then ((mg_sc xs Ls (x3 + (1 : Int32))).bind fun v47 => (mg_sc xs Ls (x3 + (2 : Int32))).bind fun v48 => mg_rc w 3 x1 (mg_bS (fX3_address x1 v47 v48 w) fun v49 w50 => (mg_sc xs Ls (x3 + (1 : Int32))).bind fun v51 => (mg_sc xs Ls (x3 + (2 : Int32))).bind fun v52 => mg_rc w50 4 x2 ((fX4_address x2 v51 v52 w50).bind fun v53 => if v49 = v53 then (fL_law_b1096 xs Ls (fL_law_b18 xs Ls n) x1 x2 x3 w50 sz) else (some ((0 : Int32), w50, 0, 0))))) else (if (v1 &&& (31 : Int32)) = (7 : Int32) then ((mg_sc xs Ls (x3 + (1 : Int32))).bind fun v54 => (mg_sc xs Ls (x3 + (2 : Int32))).bind fun v55 => (mg_sc xs Ls (x3 + (3 : Int32))).bind fun v56 => (mg_sc xs Ls (x3 + (4 : Int32))).bind fun v57 => mg_rc w 3 x1 ((fX3_cross x1 v54 v55 v56 v57 w).bind fun v58 => (mg_sc xs Ls (x3 + (1 : Int32))).bind fun v59 => (mg_sc xs Ls (x3 + (2 : Int32))).bind fun v60 => (mg_sc xs Ls (x3 + (3 : Int32))).bind fun v61 => (mg_sc xs Ls (x3 + (4 : Int32))).bind fun v62 => mg_rc w 4 x2 ((fX4_cross x2 v59 v60 v61 v62 w).bind fun v63 => if v58 = v63 then (fL_law_b1096 xs Ls (fL_law_b18 xs Ls n) x1 x2 x3 w sz) else (some ((0 : Int32), w, 0, 0))))) else (if (v1 &&& (31 : Int32)) = (8 : Int32) then ((mg_sc xs Ls (x3 + (1 : Int32))).bind fun v64 => (mg_sc xs Ls (x3 + (2 : Int32))).bind fun v65 => (mg_sc xs Ls (x3 + (3 : Int32))).bind fun v66 => mg_rc w 3 x1 (mg_bS (fX3_meet x1 v64 v65 v66 w) fun v67 w68 => (mg_sc xs Ls (x3 + (1 : Int32))).bind fun v69 => (mg_sc xs Ls (x3 + (2 : Int32))).bind fun v70 => (mg_sc xs Ls (x3 + (3 : Int32))).bind fun v71 => mg_rc w68 4 x2 ((fX4_meet x2 v69 v70 v71 w68).bind fun v72 => if v67 = v72 then (fL_law_b1096 xs Ls (fL_law_b18 xs Ls n) x1 x2 x3 w68 sz) else (some ((0 : Int32), w68, 0, 0))))) else (if (v1 &&& (31 : Int32)) = (9 : Int32) then ((mg_sc xs Ls (x3 + (1 : Int32))).bind fun v73 => mg_rc w 3 x1 (mg_bA (fX3_pairs x1 v73 w sz) fun v74 w75 kc76 ks77 => (mg_sc xs Ls (x3 + (1 : Int32))).bind fun v78 => mg_rc w75 4 x2 ((fX4_pairs x2 v78 w75).bind fun v79 => if v74 = v79 then (fL_law_b1096 xs Ls (fL_law_b18 xs Ls n) x1 x2 x3 w75 (sz + kc76)) else (some ((0 : Int32), w75, 0, 0))))) else (if (v1 &&& (31 : Int32)) = (10 : Int32) then ((mg_sc xs Ls (x3 + (1 : Int32))).bind fun v80 => (mg_sc xs Ls (x3 + (2 : Int32))).bind fun v81 => (mg_sc xs Ls (x3 + (3 : Int32))).bind fun v82 => mg_rc w 3 x1 (mg_bA (fX3_pair x1 v80 v81 v82 w sz) fun v83 w84 kc85 ks86 => (mg_sc xs Ls (x3 + (1 : Int32))).bind fun v87 => (mg_sc xs Ls (x3 + (2 : Int32))).bind fun v88 => (mg_sc xs Ls (x3 + (3 : Int32))).bind fun v89 => mg_rc w84 4 x2 ((fX4_pair x2 v87 v88 v89 w84).bind fun v90 => if v83 = v90 then (fL_law_b1096 xs Ls (fL_law_b18 xs Ls n) x1 x2 x3 w84 (sz + kc85)) else (some ((0 : Int32), w84, 0, 0))))) else (if (v1 &&& (31 : Int32)) = (11 : Int32) then ((mg_sc xs Ls (x3 + (1 : Int32))).bind fun v91 => mg_rc w 3 x1 (mg_bA (fX3_partner x1 v91 w sz) fun v92 w93 kc94 ks95 => (mg_sc xs Ls (x3 + (1 : Int32))).bind fun v96 => mg_rc w93 4 x2 (mg_bS (fX4_partner x2 v96 w93) fun v97 w98 => if v92 = v97 then (fL_law_b1096 xs Ls (fL_law_b18 xs Ls n) x1 x2 x3 w98 (sz + kc94)) else (some ((0 : Int32), w98, 0, 0))))) else (if (v1 &&& (31 : Int32)) = (12 : Int32) then ((mg_sc xs Ls (x3 + (1 : Int32))).bind fun v99 => (mg_sc xs Ls (x3 + (2 : Int32))).bind fun v100 => mg_rc w 3 x1 (mg_bA (fX3_held x1 v99 v100 w sz) fun v101 w102 kc103 ks104 => (mg_sc xs Ls (x3 + (1 : Int32))).bind fun v105 => (mg_sc xs Ls (x3 + (2 : Int32))).bind fun v106 => mg_rc w102 4 x2 ((fX4_held x2 v105 v106 w102).bind fun v107 => if v101 = v107 then (fL_law_b1096 xs Ls (fL_law_b18 xs Ls n) x1 x2 x3 w102 (sz + kc103)) else (some ((0 : Int32), w102, 0, 0))))) else (if (v1 &&& (31 : Int32)) = (13 : Int32) then ((mg_sc xs Ls (x3 + (1 : Int32))).bind fun v108 => (mg_sc xs Ls (x3 + (2 : Int32))).bind fun v109 => (mg_sc xs Ls (x3 + (3 : Int32))).bind fun v110 => (mg_sc xs Ls (x3 + (4 : Int32))).bind fun v111 => mg_rc w 3 x1 (mg_bA (fX3_holder x1 v108 v109 v110 v111 w sz) fun v112 w113 kc114 ks115 => (mg_sc xs Ls (x3 + (1 : Int32))).bind fun v116 => (mg_sc xs Ls (x3 + (2 : Int32))).bind fun v117 => (mg_sc xs Ls (x3 + (3 : Int32))).bind fun v118 => (mg_sc xs Ls (x3 + (4 : Int32))).bind fun v119 => mg_rc w113 4 x2 ((fX4_holder x2 v116 v117 v118 v119 w113).bind fun v120 => if v112 = v120 then (fL_law_b1096 xs Ls (fL_law_b18 xs Ls n) x1 x2 x3 w113 (sz + kc114)) else (some ((0 : Int32), w113, 0, 0))))) else (if (v1 &&& (31 : Int32)) = (14 : Int32) then ((mg_sc xs Ls (x3 + (1 : Int32))).bind fun v121 => (mg_sc xs Ls (x3 + (2 : Int32))).bind fun v122 => mg_rc w 3 x1 (mg_bA (fX3_holds x1 v121 v122 w sz) fun v123 w124 kc125 ks126 => (mg_sc xs Ls (x3 + (1 : Int32))).bind fun v127 => (mg_sc xs Ls (x3 + (2 : Int32))).bind fun v128 => mg_rc w124 4 x2 ((fX4_holds x2 v127 v128 w124).bind fun v129 => if v123 = v129 then (fL_law_b1096 xs Ls (fL_law_b18 xs Ls n) x1 x2 x3 w124 (sz + kc125)) else (some ((0 : Int32), w124, 0, 0))))) else (if (v1 &&& (31 : Int32)) = (15 : Int32) then ((mg_sc xs Ls (x3 + (1 : Int32))).bind fun v130 => (mg_sc xs Ls (x3 + (2 : Int32))).bind fun v131 => (mg_sc xs Ls (x3 + (3 : Int32))).bind fun v132 => mg_rc w 3 x1 (mg_bA (fX3_between x1 v130 v131 v132 w sz) fun v133 w134 kc135 ks136 => (mg_sc xs Ls (x3 + (1 : Int32))).bind fun v137 => (mg_sc xs Ls (x3 + (2 : Int32))).bind fun v138 => (mg_sc xs Ls (x3 + (3 : Int32))).bind fun v139 => mg_rc w134 4 x2 ((fX4_between x2 v137 v138 v139 w134).bind fun v140 => if v133 = v140 then (fL_law_b1096 xs Ls (fL_law_b18 xs Ls n) x1 x2 x3 w134 (sz + kc135)) else (some ((0 : Int32), w134, 0, 0))))) else (if (v1 &&& (31 : Int32)) = (16 : Int32) then ((mg_sc xs Ls (x3 + (1 : Int32))).bind fun v141 => (mg_sc xs Ls (x3 + (2 : Int32))).bind fun v142 => mg_rc w 3 x1 (mg_bA (fX3_wide x1 v141 v142 w sz) fun v143 w144 kc145 ks146 => (mg_sc xs Ls (x3 + (1 : Int32))).bind fun v147 => (mg_sc xs Ls (x3 + (2 : Int32))).bind fun v148 => mg_rc w144 4 x2 ((fX4_wide x2 v147 v148 w144).bind fun v149 => if v143 = v149 then (fL_law_b1096 xs Ls (fL_law_b18 xs Ls n) x1 x2 x3 w144 (sz + kc145)) else (some ((0 : Int32), w144, 0, 0))))) else (if (v1 &&& (31 : Int32)) = (17 : Int32) then ((mg_sc xs Ls (x3 + (1 : Int32))).bind fun v150 => (mg_sc xs Ls (x3 + (2 : Int32))).bind fun v151 => mg_rc w 3 x1 ((fX3_digit x1 v150 v151 w).bind fun v152 => (mg_sc xs Ls (x3 + (1 : Int32))).bind fun v153 => (mg_sc xs Ls (x3 + (2 : Int32))).bind fun v154 => mg_rc w 4 x2 ((fX4_digit x2 v153 v154 w).bind fun v155 => if v152 = v155 then (fL_law_b1096 xs Ls (fL_law_b18 xs Ls n) x1 x2 x3 w sz) else (some ((0 : Int32), w, 0, 0))))) else (if (v1 &&& (31 : Int32)) = (18 : Int32) then ((mg_sc xs Ls (x3 + (1 : Int32))).bind fun v156 => (mg_sc xs Ls (x3 + (2 : Int32))).bind fun v157 => mg_rc w 3 x1 (mg_bA (fX3_put x1 v156 v157 w sz) fun v158 w159 kc160 ks161 => (mg_sc xs Ls (x3 + (1 : Int32))).bind fun v162 => (mg_sc xs Ls (x3 + (2 : Int32))).bind fun v163 => mg_rc w159 4 x2 (mg_bS (fX4_put x2 v162 v163 w159) fun v164 w165 => if v158 = v164 then (fL_law_b1096 xs Ls (fL_law_b18 xs Ls n) x1 x2 x3 w165 (sz + kc160)) else (some ((0 : Int32), w165, 0, 0))))) else (if (v1 &&& (31 : Int32)) = (19 : Int32) then ((mg_sc xs Ls (x3 + (1 : Int32))).bind fun v166 => (mg_sc xs Ls (x3 + (2 : Int32))).bind fun v167 => mg_rc w 3 x1 (mg_bA (fX3_take x1 v166 v167 w sz) fun v168 w169 kc170 ks171 => (mg_sc xs Ls (x3 + (1 : Int32))).bind fun v172 => (mg_sc xs Ls (x3 + (2 : Int32))).bind fun v173 => mg_rc w169 4 x2 (mg_bS (fX4_take x2 v172 v173 w169) fun v174 w175 => if v168 = v174 then (fL_law_b1096 xs Ls (fL_law_b18 xs Ls n) x1 x2 x3 w175 (sz + kc170)) else (some ((0 : Int32), w175, 0, 0))))) else (if (v1 &&& (31 : Int32)) = (20 : Int32) then ((mg_sc xs Ls (x3 + (1 : Int32))).bind fun v176 => (mg_sc xs Ls (x3 + (2 : Int32))).bind fun v177 => (mg_sc xs Ls (x3 + (3 : Int32))).bind fun v178 => mg_rc w 3 x1 (mg_bA (fX3_sheet x1 v176 v177 v178 w sz) fun v179 w180 kc181 ks182 => (mg_sc xs Ls (x3 + (1 : Int32))).bind fun v183 => (mg_sc xs Ls (x3 + (2 : Int32))).bind fun v184 => (mg_sc xs Ls (x3 + (3 : Int32))).bind fun v185 => mg_rc w180 4 x2 (mg_bS (fX4_sheet x2 v183 v184 v185 w180) fun v186 w187 => if v179 = v186 then (fL_law_b1096 xs Ls (fL_law_b18 xs Ls n) x1 x2 x3 w187 (sz + kc181)) else (some ((0 : Int32), w187, 0, 0))))) else (if (v1 &&& (31 : Int32)) = (21 : Int32) then ((mg_sc xs Ls (x3 + (1 : Int32))).bind fun v188 => (mg_sc xs Ls (x3 + (2 : Int32))).bind fun v189 => (mg_sc xs Ls (x3 + (3 : Int32))).bind fun v190 => (mg_sc xs Ls (x3 + (4 : Int32))).bind fun v191 => mg_rc w 3 x1 (mg_bS (fX3_lay x1 v188 v189 (((v190.toInt64) <<< ((32 : Int32).toInt64 &&& 63)) ||| ((v191.toInt64) &&& (4294967295 : Int64))) w) fun v192 w193 => (mg_sc xs Ls (x3 + (1 : Int32))).bind fun v194 => (mg_sc xs Ls (x3 + (2 : Int32))).bind fun v195 => (mg_sc xs Ls (x3 + (3 : Int32))).bind fun v196 => (mg_sc xs Ls (x3 + (4 : Int32))).bind fun v197 => mg_rc w193 4 x2 (mg_bS (fX4_lay x2 v194 v195 (((v196.toInt64) <<< ((32 : Int32).toInt64 &&& 63)) ||| ((v197.toInt64) &&& (4294967295 : Int64))) w193) fun v198 w199 => if v192 = v198 then (fL_law_b1096 xs Ls (fL_law_b18 xs Ls n) x1 x2 x3 w199 sz) else (some ((0 : Int32), w199, 0, 0))))) else (if (v1 &&& (31 : Int32)) = (22 : Int32) then ((mg_sc xs Ls (x3 + (1 : Int32))).bind fun v200 => (mg_sc xs Ls (x3 + (2 : Int32))).bind fun v201 => (mg_sc xs Ls (x3 + (3 : Int32))).bind fun v202 => (mg_sc xs Ls (x3 + (4 : Int32))).bind fun v203 => mg_rc w 3 x1 (mg_bA (fX3_scan x1 v200 v201 v202 v203 w sz) fun v204 w205 kc206 ks207 => (mg_sc xs Ls (x3 + (1 : Int32))).bind fun v208 => (mg_sc xs Ls (x3 + (2 : Int32))).bind fun v209 => (mg_sc xs Ls (x3 + (3 : Int32))).bind fun v210 => (mg_sc xs Ls (x3 + (4 : Int32))).bind fun v211 => mg_rc w205 4 x2 (mg_bS (fX4_scan x2 v208 v209 v210 v211 w205) fun v212 w213 => if v204 = v212 then (fL_law_b1096 xs Ls (fL_law_b18 xs Ls n) x1 x2 x3 w213 (sz + kc206)) else (some ((0 : Int32), w213, 0, 0))))) else (if (v1 &&& (31 : Int32)) = (23 : Int32) then ((mg_sc xs Ls (x3 + (1 : Int32))).bind fun v214 => mg_rc w 3 x1 ((fX3_count x1 v214 w).bind fun v215 => (mg_sc xs Ls (x3 + (1 : Int32))).bind fun v216 => mg_rc w 4 x2 ((fX4_count x2 v216 w).bind fun v217 => if v215 = v217 then (fL_law_b1096 xs Ls (fL_law_b18 xs Ls n) x1 x2 x3 w sz) else (some ((0 : Int32), w, 0, 0))))) else (fL_law_b1096 xs Ls (fL_law_b18 xs Ls n) x1 x2 x3 w sz)))))))))))))))))))))))))
set_option maxHeartbeats 4000000 in
set_option maxRecDepth 100000 in
theorem gL_law_b18 (hC : mg_Cx E p s m args meth c cL_law 4 (some .boolean) RL) {b Ls : Nat} {xs : Nat → Int32} (hX : mg_X E b Ls xs s) : ∀ (n : Nat) (x1 : Nat) (x2 : Nat) (x3 : Int32) (w : mg_H) (sz : Nat) (cells slots : Nat), mg_G E p l e ({ frames := 10, cells := C, slots := S, locals := 384 } : Room) s m args below meth c 4 (mg_oA mg_vI) (fL_law_b18 xs Ls n x1 x2 x3 w sz) w sz cells slots 18 [(0, .ref b), (1, .ref x1), (2, .ref x2), (3, .int x3)] [] := by
  intro n
  induction n with
  | zero => intros; exact fun o hf => by rw [fL_law_b18] at hf; cases hf
  | succ n ih =>
    intro x1 x2 x3 w sz cells slots
    rw [fL_law_b18]
    refine mg_iload_n (pc := 18) hC 3 dL_law_18 rfl ?_
    refine mg_aload_n (pc := 19) hC 0 dL_law_19 rfl ?_
    refine mg_slen (pc := 20) hC hX dL_law_20 ?_
    refine mg_iconst (pc := 21) hC (5 : Int32) dL_law_21 (by decide) ?_
    refine mg_isub (pc := 22) hC dL_law_22 ?_
    refine mg_icmp_gt (pc := 23) hC 1102 dL_law_23 (by decide) (fun _ => ?_) (fun _ => ?_)
    · refine mg_iconst (pc := 1102) hC (1 : Int32) dL_law_1102 (by decide) ?_
      exact mg_zretC (pc := 1103) hC (by decide) rfl dL_law_1103
    · refine mg_aload_n (pc := 26) hC 0 dL_law_26 rfl ?_
      refine mg_iload_n (pc := 27) hC 3 dL_law_27 rfl ?_
      refine mg_sld (pc := 28) hC hX dL_law_28 (fun v1 _ => ?_)
      refine mg_bipush (pc := 29) hC (31 : Int32) dL_law_29 (by decide) ?_
      refine mg_iand (pc := 31) hC dL_law_31 ?_
      refine mg_ite (cd := (v1 &&& (31 : Int32)) = (0 : Int32)) (fun hq => ?_) (fun h0 => ?_)
      · rw [hq]
        refine mg_tswC (pc := 32) hC 144 dL_law_32 (by decide) (by decide) rfl (by decide) ?_
        refine mg_aload_n (pc := 144) hC 1 dL_law_144 rfl ?_
        refine mg_aload_n (pc := 145) hC 0 dL_law_145 rfl ?_
        refine mg_iload_n (pc := 146) hC 3 dL_law_146 rfl ?_
        refine mg_iconst (pc := 147) hC (1 : Int32) dL_law_147 (by decide) ?_
        refine mg_iadd (pc := 148) hC dL_law_148 ?_
        refine mg_sld (pc := 149) hC hX dL_law_149 (fun v2 _ => ?_)
        refine mg_i2l (pc := 150) hC dL_law_150 ?_
        refine mg_bipush (pc := 151) hC (32 : Int32) dL_law_151 (by decide) ?_
        refine mg_lshl (pc := 153) hC dL_law_153 ?_
        refine mg_aload_n (pc := 154) hC 0 dL_law_154 rfl ?_
        refine mg_iload_n (pc := 155) hC 3 dL_law_155 rfl ?_
        refine mg_iconst (pc := 156) hC (2 : Int32) dL_law_156 (by decide) ?_
        refine mg_iadd (pc := 157) hC dL_law_157 ?_
        refine mg_sld (pc := 158) hC hX dL_law_158 (fun v3 _ => ?_)
        refine mg_i2l (pc := 159) hC dL_law_159 ?_
        refine mg_ldc2 (pc := 160) hC (4294967295 : Int64) dL_law_160 mw_654 ?_
        refine mg_land (pc := 163) hC dL_law_163 ?_
        refine mg_lor (pc := 164) hC dL_law_164 ?_
        refine mg_aload_n (pc := 165) hC 0 dL_law_165 rfl ?_
        refine mg_iload_n (pc := 166) hC 3 dL_law_166 rfl ?_
        refine mg_iconst (pc := 167) hC (3 : Int32) dL_law_167 (by decide) ?_
        refine mg_iadd (pc := 168) hC dL_law_168 ?_
        refine mg_sld (pc := 169) hC hX dL_law_169 (fun v4 _ => ?_)
        refine mg_i2l (pc := 170) hC dL_law_170 ?_
        refine mg_bipush (pc := 171) hC (32 : Int32) dL_law_171 (by decide) ?_
        refine mg_lshl (pc := 173) hC dL_law_173 ?_
        refine mg_aload_n (pc := 174) hC 0 dL_law_174 rfl ?_
        refine mg_iload_n (pc := 175) hC 3 dL_law_175 rfl ?_
        refine mg_iconst (pc := 176) hC (4 : Int32) dL_law_176 (by decide) ?_
        refine mg_iadd (pc := 177) hC dL_law_177 ?_
        refine mg_sld (pc := 178) hC hX dL_law_178 (fun v5 _ => ?_)
        refine mg_i2l (pc := 179) hC dL_law_179 ?_
        refine mg_ldc2 (pc := 180) hC (4294967295 : Int64) dL_law_180 mw_654 ?_
        refine mg_land (pc := 183) hC dL_law_183 ?_
        refine mg_lor (pc := 184) hC dL_law_184 ?_
        refine mg_recv (ci := 3) (fun hb => ?_)
        refine mg_cAI (pc := 185) (fun r hr => mg_VR (rest := []) (av := [.long (((v2.toInt64) <<< ((32 : Int32).toInt64 &&& 63)) ||| ((v3.toInt64) &&& (4294967295 : Int64))), .long (((v4.toInt64) <<< ((32 : Int32).toInt64 &&& 63)) ||| ((v5.toInt64) &&& (4294967295 : Int64)))]) (ci := 3) hC wdX3_angle mw_36 dL_law_185 rfl rfl ⟨Nat.le_of_ble_eq_true rfl, Nat.le_of_ble_eq_true rfl⟩ (Nat.le_of_ble_eq_true rfl) hb (kX3_angle hr)) (fun v6 w7 kc8 ks9 _ => ?_)
        refine mg_aload_n (pc := 188) hC 2 dL_law_188 rfl ?_
        refine mg_aload_n (pc := 189) hC 0 dL_law_189 rfl ?_
        refine mg_iload_n (pc := 190) hC 3 dL_law_190 rfl ?_
        refine mg_iconst (pc := 191) hC (1 : Int32) dL_law_191 (by decide) ?_
        refine mg_iadd (pc := 192) hC dL_law_192 ?_
        refine mg_sld (pc := 193) hC hX dL_law_193 (fun v10 _ => ?_)
        refine mg_i2l (pc := 194) hC dL_law_194 ?_
        refine mg_bipush (pc := 195) hC (32 : Int32) dL_law_195 (by decide) ?_
        refine mg_lshl (pc := 197) hC dL_law_197 ?_
        refine mg_aload_n (pc := 198) hC 0 dL_law_198 rfl ?_
        refine mg_iload_n (pc := 199) hC 3 dL_law_199 rfl ?_
        refine mg_iconst (pc := 200) hC (2 : Int32) dL_law_200 (by decide) ?_
        refine mg_iadd (pc := 201) hC dL_law_201 ?_
        refine mg_sld (pc := 202) hC hX dL_law_202 (fun v11 _ => ?_)
        refine mg_i2l (pc := 203) hC dL_law_203 ?_
        refine mg_ldc2 (pc := 204) hC (4294967295 : Int64) dL_law_204 mw_654 ?_
        refine mg_land (pc := 207) hC dL_law_207 ?_
        refine mg_lor (pc := 208) hC dL_law_208 ?_
        refine mg_aload_n (pc := 209) hC 0 dL_law_209 rfl ?_
        refine mg_iload_n (pc := 210) hC 3 dL_law_210 rfl ?_
        refine mg_iconst (pc := 211) hC (3 : Int32) dL_law_211 (by decide) ?_
        refine mg_iadd (pc := 212) hC dL_law_212 ?_
        refine mg_sld (pc := 213) hC hX dL_law_213 (fun v12 _ => ?_)
        refine mg_i2l (pc := 214) hC dL_law_214 ?_
        refine mg_bipush (pc := 215) hC (32 : Int32) dL_law_215 (by decide) ?_
        refine mg_lshl (pc := 217) hC dL_law_217 ?_
        refine mg_aload_n (pc := 218) hC 0 dL_law_218 rfl ?_
        refine mg_iload_n (pc := 219) hC 3 dL_law_219 rfl ?_
        refine mg_iconst (pc := 220) hC (4 : Int32) dL_law_220 (by decide) ?_
        refine mg_iadd (pc := 221) hC dL_law_221 ?_
        refine mg_sld (pc := 222) hC hX dL_law_222 (fun v13 _ => ?_)
        refine mg_i2l (pc := 223) hC dL_law_223 ?_
        refine mg_ldc2 (pc := 224) hC (4294967295 : Int64) dL_law_224 mw_654 ?_
        refine mg_land (pc := 227) hC dL_law_227 ?_
        refine mg_lor (pc := 228) hC dL_law_228 ?_
        refine mg_recv (ci := 4) (fun hb => ?_)
        refine mg_cSI (pc := 229) (fun r hr => mg_VR (rest := [.int v6]) (av := [.long (((v10.toInt64) <<< ((32 : Int32).toInt64 &&& 63)) ||| ((v11.toInt64) &&& (4294967295 : Int64))), .long (((v12.toInt64) <<< ((32 : Int32).toInt64 &&& 63)) ||| ((v13.toInt64) &&& (4294967295 : Int64)))]) (ci := 4) hC wdX4_angle mw_479 dL_law_229 rfl rfl ⟨Nat.le_of_ble_eq_true rfl, Nat.le_of_ble_eq_true rfl⟩ (Nat.le_of_ble_eq_true rfl) hb (kX4_angle hr)) (fun v14 w15 _ => ?_)
        refine mg_icmp_eq (pc := 232) hC 1096 dL_law_232 (by decide) (fun _ => ?_) (fun _ => ?_)
        · exact mg_sub (pc := 1096) [0, 1, 2, 3] (L' := [(0, .ref b), (1, .ref x1), (2, .ref x2), (3, .int x3)]) rfl (gL_law_b1096 hC hX  _ ih _ _ _ _ _ _ _)
        · refine mg_iconst (pc := 235) hC (0 : Int32) dL_law_235 (by decide) ?_
          exact mg_zretC (pc := 236) hC (by decide) rfl dL_law_236
      · skip
        refine mg_ite (cd := (v1 &&& (31 : Int32)) = (1 : Int32)) (fun hq => ?_) (fun h1 => ?_)
        · rw [hq]
          refine mg_tswC (pc := 32) hC 237 dL_law_32 (by decide) (by decide) rfl (by decide) ?_
          refine mg_aload_n (pc := 237) hC 1 dL_law_237 rfl ?_
          refine mg_recv (ci := 3) (fun hb => ?_)
          refine mg_cSI (pc := 238) (fun r hr => mg_VR (rest := []) (av := []) (ci := 3) hC wdX3_drop mw_88 dL_law_238 rfl rfl ⟨Nat.le_of_ble_eq_true rfl, Nat.le_of_ble_eq_true rfl⟩ (Nat.le_of_ble_eq_true rfl) hb (kX3_drop hr)) (fun v16 w17 _ => ?_)
          refine mg_aload_n (pc := 241) hC 2 dL_law_241 rfl ?_
          refine mg_recv (ci := 4) (fun hb => ?_)
          refine mg_cSI (pc := 242) (fun r hr => mg_VR (rest := [.int v16]) (av := []) (ci := 4) hC wdX4_drop mw_488 dL_law_242 rfl rfl ⟨Nat.le_of_ble_eq_true rfl, Nat.le_of_ble_eq_true rfl⟩ (Nat.le_of_ble_eq_true rfl) hb (kX4_drop hr)) (fun v18 w19 _ => ?_)
          refine mg_icmp_eq (pc := 245) hC 1096 dL_law_245 (by decide) (fun _ => ?_) (fun _ => ?_)
          · exact mg_sub (pc := 1096) [0, 1, 2, 3] (L' := [(0, .ref b), (1, .ref x1), (2, .ref x2), (3, .int x3)]) rfl (gL_law_b1096 hC hX  _ ih _ _ _ _ _ _ _)
          · refine mg_iconst (pc := 248) hC (0 : Int32) dL_law_248 (by decide) ?_
            exact mg_zretC (pc := 249) hC (by decide) rfl dL_law_249
        · skip
          refine mg_ite (cd := (v1 &&& (31 : Int32)) = (2 : Int32)) (fun hq => ?_) (fun h2 => ?_)
          · rw [hq]
            refine mg_tswC (pc := 32) hC 250 dL_law_32 (by decide) (by decide) rfl (by decide) ?_
            refine mg_aload_n (pc := 250) hC 1 dL_law_250 rfl ?_
            refine mg_aload_n (pc := 251) hC 0 dL_law_251 rfl ?_
            refine mg_iload_n (pc := 252) hC 3 dL_law_252 rfl ?_
            refine mg_iconst (pc := 253) hC (1 : Int32) dL_law_253 (by decide) ?_
            refine mg_iadd (pc := 254) hC dL_law_254 ?_
            refine mg_sld (pc := 255) hC hX dL_law_255 (fun v20 _ => ?_)
            refine mg_aload_n (pc := 256) hC 0 dL_law_256 rfl ?_
            refine mg_iload_n (pc := 257) hC 3 dL_law_257 rfl ?_
            refine mg_iconst (pc := 258) hC (2 : Int32) dL_law_258 (by decide) ?_
            refine mg_iadd (pc := 259) hC dL_law_259 ?_
            refine mg_sld (pc := 260) hC hX dL_law_260 (fun v21 _ => ?_)
            refine mg_recv (ci := 3) (fun hb => ?_)
            refine mg_cRI (pc := 261) (fun r hr => mg_VR (rest := []) (av := [.int v20, .int v21]) (ci := 3) hC wdX3_told mw_92 dL_law_261 rfl rfl ⟨Nat.le_of_ble_eq_true rfl, Nat.le_of_ble_eq_true rfl⟩ (Nat.le_of_ble_eq_true rfl) hb (kX3_told hr)) (fun v22 _ => ?_)
            refine mg_aload_n (pc := 264) hC 2 dL_law_264 rfl ?_
            refine mg_aload_n (pc := 265) hC 0 dL_law_265 rfl ?_
            refine mg_iload_n (pc := 266) hC 3 dL_law_266 rfl ?_
            refine mg_iconst (pc := 267) hC (1 : Int32) dL_law_267 (by decide) ?_
            refine mg_iadd (pc := 268) hC dL_law_268 ?_
            refine mg_sld (pc := 269) hC hX dL_law_269 (fun v23 _ => ?_)
            refine mg_aload_n (pc := 270) hC 0 dL_law_270 rfl ?_
            refine mg_iload_n (pc := 271) hC 3 dL_law_271 rfl ?_
            refine mg_iconst (pc := 272) hC (2 : Int32) dL_law_272 (by decide) ?_
            refine mg_iadd (pc := 273) hC dL_law_273 ?_
            refine mg_sld (pc := 274) hC hX dL_law_274 (fun v24 _ => ?_)
            refine mg_recv (ci := 4) (fun hb => ?_)
            refine mg_cRI (pc := 275) (fun r hr => mg_VR (rest := [.int v22]) (av := [.int v23, .int v24]) (ci := 4) hC wdX4_told mw_492 dL_law_275 rfl rfl ⟨Nat.le_of_ble_eq_true rfl, Nat.le_of_ble_eq_true rfl⟩ (Nat.le_of_ble_eq_true rfl) hb (kX4_told hr)) (fun v25 _ => ?_)
            refine mg_icmp_eq (pc := 278) hC 1096 dL_law_278 (by decide) (fun _ => ?_) (fun _ => ?_)
            · exact mg_sub (pc := 1096) [0, 1, 2, 3] (L' := [(0, .ref b), (1, .ref x1), (2, .ref x2), (3, .int x3)]) rfl (gL_law_b1096 hC hX  _ ih _ _ _ _ _ _ _)
            · refine mg_iconst (pc := 281) hC (0 : Int32) dL_law_281 (by decide) ?_
              exact mg_zretC (pc := 282) hC (by decide) rfl dL_law_282
          · skip
            refine mg_ite (cd := (v1 &&& (31 : Int32)) = (3 : Int32)) (fun hq => ?_) (fun h3 => ?_)
            · rw [hq]
              refine mg_tswC (pc := 32) hC 283 dL_law_32 (by decide) (by decide) rfl (by decide) ?_
              refine mg_aload_n (pc := 283) hC 1 dL_law_283 rfl ?_
              refine mg_aload_n (pc := 284) hC 0 dL_law_284 rfl ?_
              refine mg_iload_n (pc := 285) hC 3 dL_law_285 rfl ?_
              refine mg_iconst (pc := 286) hC (1 : Int32) dL_law_286 (by decide) ?_
              refine mg_iadd (pc := 287) hC dL_law_287 ?_
              refine mg_sld (pc := 288) hC hX dL_law_288 (fun v26 _ => ?_)
              refine mg_aload_n (pc := 289) hC 0 dL_law_289 rfl ?_
              refine mg_iload_n (pc := 290) hC 3 dL_law_290 rfl ?_
              refine mg_iconst (pc := 291) hC (2 : Int32) dL_law_291 (by decide) ?_
              refine mg_iadd (pc := 292) hC dL_law_292 ?_
              refine mg_sld (pc := 293) hC hX dL_law_293 (fun v27 _ => ?_)
              refine mg_aload_n (pc := 294) hC 0 dL_law_294 rfl ?_
              refine mg_iload_n (pc := 295) hC 3 dL_law_295 rfl ?_
              refine mg_iconst (pc := 296) hC (3 : Int32) dL_law_296 (by decide) ?_
              refine mg_iadd (pc := 297) hC dL_law_297 ?_
              refine mg_sld (pc := 298) hC hX dL_law_298 (fun v28 _ => ?_)
              refine mg_recv (ci := 3) (fun hb => ?_)
              refine mg_cRI (pc := 299) (fun r hr => mg_VR (rest := []) (av := [.int v26, .int v27, .int v28]) (ci := 3) hC wdX3_doubled mw_100 dL_law_299 rfl rfl ⟨Nat.le_of_ble_eq_true rfl, Nat.le_of_ble_eq_true rfl⟩ (Nat.le_of_ble_eq_true rfl) hb (kX3_doubled hr)) (fun v29 _ => ?_)
              refine mg_aload_n (pc := 302) hC 2 dL_law_302 rfl ?_
              refine mg_aload_n (pc := 303) hC 0 dL_law_303 rfl ?_
              refine mg_iload_n (pc := 304) hC 3 dL_law_304 rfl ?_
              refine mg_iconst (pc := 305) hC (1 : Int32) dL_law_305 (by decide) ?_
              refine mg_iadd (pc := 306) hC dL_law_306 ?_
              refine mg_sld (pc := 307) hC hX dL_law_307 (fun v30 _ => ?_)
              refine mg_aload_n (pc := 308) hC 0 dL_law_308 rfl ?_
              refine mg_iload_n (pc := 309) hC 3 dL_law_309 rfl ?_
              refine mg_iconst (pc := 310) hC (2 : Int32) dL_law_310 (by decide) ?_
              refine mg_iadd (pc := 311) hC dL_law_311 ?_
              refine mg_sld (pc := 312) hC hX dL_law_312 (fun v31 _ => ?_)
              refine mg_aload_n (pc := 313) hC 0 dL_law_313 rfl ?_
              refine mg_iload_n (pc := 314) hC 3 dL_law_314 rfl ?_
              refine mg_iconst (pc := 315) hC (3 : Int32) dL_law_315 (by decide) ?_
              refine mg_iadd (pc := 316) hC dL_law_316 ?_
              refine mg_sld (pc := 317) hC hX dL_law_317 (fun v32 _ => ?_)
              refine mg_recv (ci := 4) (fun hb => ?_)
              refine mg_cRI (pc := 318) (fun r hr => mg_VR (rest := [.int v29]) (av := [.int v30, .int v31, .int v32]) (ci := 4) hC wdX4_doubled mw_504 dL_law_318 rfl rfl ⟨Nat.le_of_ble_eq_true rfl, Nat.le_of_ble_eq_true rfl⟩ (Nat.le_of_ble_eq_true rfl) hb (kX4_doubled hr)) (fun v33 _ => ?_)
              refine mg_icmp_eq (pc := 321) hC 1096 dL_law_321 (by decide) (fun _ => ?_) (fun _ => ?_)
              · exact mg_sub (pc := 1096) [0, 1, 2, 3] (L' := [(0, .ref b), (1, .ref x1), (2, .ref x2), (3, .int x3)]) rfl (gL_law_b1096 hC hX  _ ih _ _ _ _ _ _ _)
              · refine mg_iconst (pc := 324) hC (0 : Int32) dL_law_324 (by decide) ?_
                exact mg_zretC (pc := 325) hC (by decide) rfl dL_law_325
            · skip
              refine mg_ite (cd := (v1 &&& (31 : Int32)) = (4 : Int32)) (fun hq => ?_) (fun h4 => ?_)
              · rw [hq]
                refine mg_tswC (pc := 32) hC 326 dL_law_32 (by decide) (by decide) rfl (by decide) ?_
                refine mg_aload_n (pc := 326) hC 1 dL_law_326 rfl ?_
                refine mg_aload_n (pc := 327) hC 0 dL_law_327 rfl ?_
                refine mg_iload_n (pc := 328) hC 3 dL_law_328 rfl ?_
                refine mg_iconst (pc := 329) hC (1 : Int32) dL_law_329 (by decide) ?_
                refine mg_iadd (pc := 330) hC dL_law_330 ?_
                refine mg_sld (pc := 331) hC hX dL_law_331 (fun v34 _ => ?_)
                refine mg_recv (ci := 3) (fun hb => ?_)
                refine mg_cSI (pc := 332) (fun r hr => mg_VR (rest := []) (av := [.int v34]) (ci := 3) hC wdX3_all mw_113 dL_law_332 rfl rfl ⟨Nat.le_of_ble_eq_true rfl, Nat.le_of_ble_eq_true rfl⟩ (Nat.le_of_ble_eq_true rfl) hb (kX3_all hr)) (fun v35 w36 _ => ?_)
                refine mg_aload_n (pc := 335) hC 2 dL_law_335 rfl ?_
                refine mg_aload_n (pc := 336) hC 0 dL_law_336 rfl ?_
                refine mg_iload_n (pc := 337) hC 3 dL_law_337 rfl ?_
                refine mg_iconst (pc := 338) hC (1 : Int32) dL_law_338 (by decide) ?_
                refine mg_iadd (pc := 339) hC dL_law_339 ?_
                refine mg_sld (pc := 340) hC hX dL_law_340 (fun v37 _ => ?_)
                refine mg_recv (ci := 4) (fun hb => ?_)
                refine mg_cRI (pc := 341) (fun r hr => mg_VR (rest := [.int v35]) (av := [.int v37]) (ci := 4) hC wdX4_all mw_512 dL_law_341 rfl rfl ⟨Nat.le_of_ble_eq_true rfl, Nat.le_of_ble_eq_true rfl⟩ (Nat.le_of_ble_eq_true rfl) hb (kX4_all hr)) (fun v38 _ => ?_)
                refine mg_icmp_eq (pc := 344) hC 1096 dL_law_344 (by decide) (fun _ => ?_) (fun _ => ?_)
                · exact mg_sub (pc := 1096) [0, 1, 2, 3] (L' := [(0, .ref b), (1, .ref x1), (2, .ref x2), (3, .int x3)]) rfl (gL_law_b1096 hC hX  _ ih _ _ _ _ _ _ _)
                · refine mg_iconst (pc := 347) hC (0 : Int32) dL_law_347 (by decide) ?_
                  exact mg_zretC (pc := 348) hC (by decide) rfl dL_law_348
              · skip
                refine mg_ite (cd := (v1 &&& (31 : Int32)) = (5 : Int32)) (fun hq => ?_) (fun h5 => ?_)
                · rw [hq]
                  refine mg_tswC (pc := 32) hC 349 dL_law_32 (by decide) (by decide) rfl (by decide) ?_
                  refine mg_aload_n (pc := 349) hC 1 dL_law_349 rfl ?_
                  refine mg_aload_n (pc := 350) hC 0 dL_law_350 rfl ?_
                  refine mg_iload_n (pc := 351) hC 3 dL_law_351 rfl ?_
                  refine mg_iconst (pc := 352) hC (1 : Int32) dL_law_352 (by decide) ?_
                  refine mg_iadd (pc := 353) hC dL_law_353 ?_
                  refine mg_sld (pc := 354) hC hX dL_law_354 (fun v39 _ => ?_)
                  refine mg_aload_n (pc := 355) hC 0 dL_law_355 rfl ?_
                  refine mg_iload_n (pc := 356) hC 3 dL_law_356 rfl ?_
                  refine mg_iconst (pc := 357) hC (2 : Int32) dL_law_357 (by decide) ?_
                  refine mg_iadd (pc := 358) hC dL_law_358 ?_
                  refine mg_sld (pc := 359) hC hX dL_law_359 (fun v40 _ => ?_)
                  refine mg_aload_n (pc := 360) hC 0 dL_law_360 rfl ?_
                  refine mg_iload_n (pc := 361) hC 3 dL_law_361 rfl ?_
                  refine mg_iconst (pc := 362) hC (3 : Int32) dL_law_362 (by decide) ?_
                  refine mg_iadd (pc := 363) hC dL_law_363 ?_
                  refine mg_sld (pc := 364) hC hX dL_law_364 (fun v41 _ => ?_)
                  refine mg_recv (ci := 3) (fun hb => ?_)
                  refine mg_cRI (pc := 365) (fun r hr => mg_VR (rest := []) (av := [.int v39, .int v40, .int v41]) (ci := 3) hC wdX3_letter mw_127 dL_law_365 rfl rfl ⟨Nat.le_of_ble_eq_true rfl, Nat.le_of_ble_eq_true rfl⟩ (Nat.le_of_ble_eq_true rfl) hb (kX3_letter hr)) (fun v42 _ => ?_)
                  refine mg_aload_n (pc := 368) hC 2 dL_law_368 rfl ?_
                  refine mg_aload_n (pc := 369) hC 0 dL_law_369 rfl ?_
                  refine mg_iload_n (pc := 370) hC 3 dL_law_370 rfl ?_
                  refine mg_iconst (pc := 371) hC (1 : Int32) dL_law_371 (by decide) ?_
                  refine mg_iadd (pc := 372) hC dL_law_372 ?_
                  refine mg_sld (pc := 373) hC hX dL_law_373 (fun v43 _ => ?_)
                  refine mg_aload_n (pc := 374) hC 0 dL_law_374 rfl ?_
                  refine mg_iload_n (pc := 375) hC 3 dL_law_375 rfl ?_
                  refine mg_iconst (pc := 376) hC (2 : Int32) dL_law_376 (by decide) ?_
                  refine mg_iadd (pc := 377) hC dL_law_377 ?_
                  refine mg_sld (pc := 378) hC hX dL_law_378 (fun v44 _ => ?_)
                  refine mg_aload_n (pc := 379) hC 0 dL_law_379 rfl ?_
                  refine mg_iload_n (pc := 380) hC 3 dL_law_380 rfl ?_
                  refine mg_iconst (pc := 381) hC (3 : Int32) dL_law_381 (by decide) ?_
                  refine mg_iadd (pc := 382) hC dL_law_382 ?_
                  refine mg_sld (pc := 383) hC hX dL_law_383 (fun v45 _ => ?_)
                  refine mg_recv (ci := 4) (fun hb => ?_)
                  refine mg_cRI (pc := 384) (fun r hr => mg_VR (rest := [.int v42]) (av := [.int v43, .int v44, .int v45]) (ci := 4) hC wdX4_letter mw_520 dL_law_384 rfl rfl ⟨Nat.le_of_ble_eq_true rfl, Nat.le_of_ble_eq_true rfl⟩ (Nat.le_of_ble_eq_true rfl) hb (kX4_letter hr)) (fun v46 _ => ?_)
                  refine mg_icmp_eq (pc := 387) hC 1096 dL_law_387 (by decide) (fun _ => ?_) (fun _ => ?_)
                  · exact mg_sub (pc := 1096) [0, 1, 2, 3] (L' := [(0, .ref b), (1, .ref x1), (2, .ref x2), (3, .int x3)]) rfl (gL_law_b1096 hC hX  _ ih _ _ _ _ _ _ _)
                  · refine mg_iconst (pc := 390) hC (0 : Int32) dL_law_390 (by decide) ?_
                    exact mg_zretC (pc := 391) hC (by decide) rfl dL_law_391
                · skip
                  refine mg_ite (cd := (v1 &&& (31 : Int32)) = (6 : Int32)) (fun hq => ?_) (fun h6 => ?_)
                  · rw [hq]
                    refine mg_tswC (pc := 32) hC 392 dL_law_32 (by decide) (by decide) rfl (by decide) ?_
                    refine mg_aload_n (pc := 392) hC 1 dL_law_392 rfl ?_
                    refine mg_aload_n (pc := 393) hC 0 dL_law_393 rfl ?_
                    refine mg_iload_n (pc := 394) hC 3 dL_law_394 rfl ?_
                    refine mg_iconst (pc := 395) hC (1 : Int32) dL_law_395 (by decide) ?_
                    refine mg_iadd (pc := 396) hC dL_law_396 ?_
                    refine mg_sld (pc := 397) hC hX dL_law_397 (fun v47 _ => ?_)
                    refine mg_aload_n (pc := 398) hC 0 dL_law_398 rfl ?_
                    refine mg_iload_n (pc := 399) hC 3 dL_law_399 rfl ?_
                    refine mg_iconst (pc := 400) hC (2 : Int32) dL_law_400 (by decide) ?_
                    refine mg_iadd (pc := 401) hC dL_law_401 ?_
                    refine mg_sld (pc := 402) hC hX dL_law_402 (fun v48 _ => ?_)
                    refine mg_recv (ci := 3) (fun hb => ?_)
                    refine mg_cSI (pc := 403) (fun r hr => mg_VR (rest := []) (av := [.int v47, .int v48]) (ci := 3) hC wdX3_address mw_139 dL_law_403 rfl rfl ⟨Nat.le_of_ble_eq_true rfl, Nat.le_of_ble_eq_true rfl⟩ (Nat.le_of_ble_eq_true rfl) hb (kX3_address hr)) (fun v49 w50 _ => ?_)
                    refine mg_aload_n (pc := 406) hC 2 dL_law_406 rfl ?_
                    refine mg_aload_n (pc := 407) hC 0 dL_law_407 rfl ?_
                    refine mg_iload_n (pc := 408) hC 3 dL_law_408 rfl ?_
                    refine mg_iconst (pc := 409) hC (1 : Int32) dL_law_409 (by decide) ?_
                    refine mg_iadd (pc := 410) hC dL_law_410 ?_
                    refine mg_sld (pc := 411) hC hX dL_law_411 (fun v51 _ => ?_)
                    refine mg_aload_n (pc := 412) hC 0 dL_law_412 rfl ?_
                    refine mg_iload_n (pc := 413) hC 3 dL_law_413 rfl ?_
                    refine mg_iconst (pc := 414) hC (2 : Int32) dL_law_414 (by decide) ?_
                    refine mg_iadd (pc := 415) hC dL_law_415 ?_
                    refine mg_sld (pc := 416) hC hX dL_law_416 (fun v52 _ => ?_)
                    refine mg_recv (ci := 4) (fun hb => ?_)
                    refine mg_cRI (pc := 417) (fun r hr => mg_VR (rest := [.int v49]) (av := [.int v51, .int v52]) (ci := 4) hC wdX4_address mw_531 dL_law_417 rfl rfl ⟨Nat.le_of_ble_eq_true rfl, Nat.le_of_ble_eq_true rfl⟩ (Nat.le_of_ble_eq_true rfl) hb (kX4_address hr)) (fun v53 _ => ?_)
                    refine mg_icmp_eq (pc := 420) hC 1096 dL_law_420 (by decide) (fun _ => ?_) (fun _ => ?_)
                    · exact mg_sub (pc := 1096) [0, 1, 2, 3] (L' := [(0, .ref b), (1, .ref x1), (2, .ref x2), (3, .int x3)]) rfl (gL_law_b1096 hC hX  _ ih _ _ _ _ _ _ _)
                    · refine mg_iconst (pc := 423) hC (0 : Int32) dL_law_423 (by decide) ?_
                      exact mg_zretC (pc := 424) hC (by decide) rfl dL_law_424
                  · skip
                    refine mg_ite (cd := (v1 &&& (31 : Int32)) = (7 : Int32)) (fun hq => ?_) (fun h7 => ?_)
                    · rw [hq]
                      refine mg_tswC (pc := 32) hC 425 dL_law_32 (by decide) (by decide) rfl (by decide) ?_
                      refine mg_aload_n (pc := 425) hC 1 dL_law_425 rfl ?_
                      refine mg_aload_n (pc := 426) hC 0 dL_law_426 rfl ?_
                      refine mg_iload_n (pc := 427) hC 3 dL_law_427 rfl ?_
                      refine mg_iconst (pc := 428) hC (1 : Int32) dL_law_428 (by decide) ?_
                      refine mg_iadd (pc := 429) hC dL_law_429 ?_
                      refine mg_sld (pc := 430) hC hX dL_law_430 (fun v54 _ => ?_)
                      refine mg_aload_n (pc := 431) hC 0 dL_law_431 rfl ?_
                      refine mg_iload_n (pc := 432) hC 3 dL_law_432 rfl ?_
                      refine mg_iconst (pc := 433) hC (2 : Int32) dL_law_433 (by decide) ?_
                      refine mg_iadd (pc := 434) hC dL_law_434 ?_
                      refine mg_sld (pc := 435) hC hX dL_law_435 (fun v55 _ => ?_)
                      refine mg_aload_n (pc := 436) hC 0 dL_law_436 rfl ?_
                      refine mg_iload_n (pc := 437) hC 3 dL_law_437 rfl ?_
                      refine mg_iconst (pc := 438) hC (3 : Int32) dL_law_438 (by decide) ?_
                      refine mg_iadd (pc := 439) hC dL_law_439 ?_
                      refine mg_sld (pc := 440) hC hX dL_law_440 (fun v56 _ => ?_)
                      refine mg_aload_n (pc := 441) hC 0 dL_law_441 rfl ?_
                      refine mg_iload_n (pc := 442) hC 3 dL_law_442 rfl ?_
                      refine mg_iconst (pc := 443) hC (4 : Int32) dL_law_443 (by decide) ?_
                      refine mg_iadd (pc := 444) hC dL_law_444 ?_
                      refine mg_sld (pc := 445) hC hX dL_law_445 (fun v57 _ => ?_)
                      refine mg_recv (ci := 3) (fun hb => ?_)
                      refine mg_cRI (pc := 446) (fun r hr => mg_VR (rest := []) (av := [.int v54, .int v55, .int v56, .int v57]) (ci := 3) hC wdX3_cross mw_156 dL_law_446 rfl rfl ⟨Nat.le_of_ble_eq_true rfl, Nat.le_of_ble_eq_true rfl⟩ (Nat.le_of_ble_eq_true rfl) hb (kX3_cross hr)) (fun v58 _ => ?_)
                      refine mg_aload_n (pc := 449) hC 2 dL_law_449 rfl ?_
                      refine mg_aload_n (pc := 450) hC 0 dL_law_450 rfl ?_
                      refine mg_iload_n (pc := 451) hC 3 dL_law_451 rfl ?_
                      refine mg_iconst (pc := 452) hC (1 : Int32) dL_law_452 (by decide) ?_
                      refine mg_iadd (pc := 453) hC dL_law_453 ?_
                      refine mg_sld (pc := 454) hC hX dL_law_454 (fun v59 _ => ?_)
                      refine mg_aload_n (pc := 455) hC 0 dL_law_455 rfl ?_
                      refine mg_iload_n (pc := 456) hC 3 dL_law_456 rfl ?_
                      refine mg_iconst (pc := 457) hC (2 : Int32) dL_law_457 (by decide) ?_
                      refine mg_iadd (pc := 458) hC dL_law_458 ?_
                      refine mg_sld (pc := 459) hC hX dL_law_459 (fun v60 _ => ?_)
                      refine mg_aload_n (pc := 460) hC 0 dL_law_460 rfl ?_
                      refine mg_iload_n (pc := 461) hC 3 dL_law_461 rfl ?_
                      refine mg_iconst (pc := 462) hC (3 : Int32) dL_law_462 (by decide) ?_
                      refine mg_iadd (pc := 463) hC dL_law_463 ?_
                      refine mg_sld (pc := 464) hC hX dL_law_464 (fun v61 _ => ?_)
                      refine mg_aload_n (pc := 465) hC 0 dL_law_465 rfl ?_
                      refine mg_iload_n (pc := 466) hC 3 dL_law_466 rfl ?_
                      refine mg_iconst (pc := 467) hC (4 : Int32) dL_law_467 (by decide) ?_
                      refine mg_iadd (pc := 468) hC dL_law_468 ?_
                      refine mg_sld (pc := 469) hC hX dL_law_469 (fun v62 _ => ?_)
                      refine mg_recv (ci := 4) (fun hb => ?_)
                      refine mg_cRI (pc := 470) (fun r hr => mg_VR (rest := [.int v58]) (av := [.int v59, .int v60, .int v61, .int v62]) (ci := 4) hC wdX4_cross mw_539 dL_law_470 rfl rfl ⟨Nat.le_of_ble_eq_true rfl, Nat.le_of_ble_eq_true rfl⟩ (Nat.le_of_ble_eq_true rfl) hb (kX4_cross hr)) (fun v63 _ => ?_)
                      refine mg_icmp_eq (pc := 473) hC 1096 dL_law_473 (by decide) (fun _ => ?_) (fun _ => ?_)
                      · exact mg_sub (pc := 1096) [0, 1, 2, 3] (L' := [(0, .ref b), (1, .ref x1), (2, .ref x2), (3, .int x3)]) rfl (gL_law_b1096 hC hX  _ ih _ _ _ _ _ _ _)
                      · refine mg_iconst (pc := 476) hC (0 : Int32) dL_law_476 (by decide) ?_
                        exact mg_zretC (pc := 477) hC (by decide) rfl dL_law_477
                    · skip
                      refine mg_ite (cd := (v1 &&& (31 : Int32)) = (8 : Int32)) (fun hq => ?_) (fun h8 => ?_)
                      · rw [hq]
                        refine mg_tswC (pc := 32) hC 478 dL_law_32 (by decide) (by decide) rfl (by decide) ?_
                        refine mg_aload_n (pc := 478) hC 1 dL_law_478 rfl ?_
                        refine mg_aload_n (pc := 479) hC 0 dL_law_479 rfl ?_
                        refine mg_iload_n (pc := 480) hC 3 dL_law_480 rfl ?_
                        refine mg_iconst (pc := 481) hC (1 : Int32) dL_law_481 (by decide) ?_
                        refine mg_iadd (pc := 482) hC dL_law_482 ?_
                        refine mg_sld (pc := 483) hC hX dL_law_483 (fun v64 _ => ?_)
                        refine mg_aload_n (pc := 484) hC 0 dL_law_484 rfl ?_
                        refine mg_iload_n (pc := 485) hC 3 dL_law_485 rfl ?_
                        refine mg_iconst (pc := 486) hC (2 : Int32) dL_law_486 (by decide) ?_
                        refine mg_iadd (pc := 487) hC dL_law_487 ?_
                        refine mg_sld (pc := 488) hC hX dL_law_488 (fun v65 _ => ?_)
                        refine mg_aload_n (pc := 489) hC 0 dL_law_489 rfl ?_
                        refine mg_iload_n (pc := 490) hC 3 dL_law_490 rfl ?_
                        refine mg_iconst (pc := 491) hC (3 : Int32) dL_law_491 (by decide) ?_
                        refine mg_iadd (pc := 492) hC dL_law_492 ?_
                        refine mg_sld (pc := 493) hC hX dL_law_493 (fun v66 _ => ?_)
                        refine mg_recv (ci := 3) (fun hb => ?_)
                        refine mg_cSI (pc := 494) (fun r hr => mg_VR (rest := []) (av := [.int v64, .int v65, .int v66]) (ci := 3) hC wdX3_meet mw_167 dL_law_494 rfl rfl ⟨Nat.le_of_ble_eq_true rfl, Nat.le_of_ble_eq_true rfl⟩ (Nat.le_of_ble_eq_true rfl) hb (kX3_meet hr)) (fun v67 w68 _ => ?_)
                        refine mg_aload_n (pc := 497) hC 2 dL_law_497 rfl ?_
                        refine mg_aload_n (pc := 498) hC 0 dL_law_498 rfl ?_
                        refine mg_iload_n (pc := 499) hC 3 dL_law_499 rfl ?_
                        refine mg_iconst (pc := 500) hC (1 : Int32) dL_law_500 (by decide) ?_
                        refine mg_iadd (pc := 501) hC dL_law_501 ?_
                        refine mg_sld (pc := 502) hC hX dL_law_502 (fun v69 _ => ?_)
                        refine mg_aload_n (pc := 503) hC 0 dL_law_503 rfl ?_
                        refine mg_iload_n (pc := 504) hC 3 dL_law_504 rfl ?_
                        refine mg_iconst (pc := 505) hC (2 : Int32) dL_law_505 (by decide) ?_
                        refine mg_iadd (pc := 506) hC dL_law_506 ?_
                        refine mg_sld (pc := 507) hC hX dL_law_507 (fun v70 _ => ?_)
                        refine mg_aload_n (pc := 508) hC 0 dL_law_508 rfl ?_
                        refine mg_iload_n (pc := 509) hC 3 dL_law_509 rfl ?_
                        refine mg_iconst (pc := 510) hC (3 : Int32) dL_law_510 (by decide) ?_
                        refine mg_iadd (pc := 511) hC dL_law_511 ?_
                        refine mg_sld (pc := 512) hC hX dL_law_512 (fun v71 _ => ?_)
                        refine mg_recv (ci := 4) (fun hb => ?_)
                        refine mg_cRI (pc := 513) (fun r hr => mg_VR (rest := [.int v67]) (av := [.int v69, .int v70, .int v71]) (ci := 4) hC wdX4_meet mw_555 dL_law_513 rfl rfl ⟨Nat.le_of_ble_eq_true rfl, Nat.le_of_ble_eq_true rfl⟩ (Nat.le_of_ble_eq_true rfl) hb (kX4_meet hr)) (fun v72 _ => ?_)
                        refine mg_icmp_eq (pc := 516) hC 1096 dL_law_516 (by decide) (fun _ => ?_) (fun _ => ?_)
                        · exact mg_sub (pc := 1096) [0, 1, 2, 3] (L' := [(0, .ref b), (1, .ref x1), (2, .ref x2), (3, .int x3)]) rfl (gL_law_b1096 hC hX  _ ih _ _ _ _ _ _ _)
                        · refine mg_iconst (pc := 519) hC (0 : Int32) dL_law_519 (by decide) ?_
                          exact mg_zretC (pc := 520) hC (by decide) rfl dL_law_520
                      · skip
                        refine mg_ite (cd := (v1 &&& (31 : Int32)) = (9 : Int32)) (fun hq => ?_) (fun h9 => ?_)
                        · rw [hq]
                          refine mg_tswC (pc := 32) hC 521 dL_law_32 (by decide) (by decide) rfl (by decide) ?_
                          refine mg_aload_n (pc := 521) hC 1 dL_law_521 rfl ?_
                          refine mg_aload_n (pc := 522) hC 0 dL_law_522 rfl ?_
                          refine mg_iload_n (pc := 523) hC 3 dL_law_523 rfl ?_
                          refine mg_iconst (pc := 524) hC (1 : Int32) dL_law_524 (by decide) ?_
                          refine mg_iadd (pc := 525) hC dL_law_525 ?_
                          refine mg_sld (pc := 526) hC hX dL_law_526 (fun v73 _ => ?_)
                          refine mg_recv (ci := 3) (fun hb => ?_)
                          refine mg_cAI (pc := 527) (fun r hr => mg_VR (rest := []) (av := [.int v73]) (ci := 3) hC wdX3_pairs mw_184 dL_law_527 rfl rfl ⟨Nat.le_of_ble_eq_true rfl, Nat.le_of_ble_eq_true rfl⟩ (Nat.le_of_ble_eq_true rfl) hb (kX3_pairs hr)) (fun v74 w75 kc76 ks77 _ => ?_)
                          refine mg_aload_n (pc := 530) hC 2 dL_law_530 rfl ?_
                          refine mg_aload_n (pc := 531) hC 0 dL_law_531 rfl ?_
                          refine mg_iload_n (pc := 532) hC 3 dL_law_532 rfl ?_
                          refine mg_iconst (pc := 533) hC (1 : Int32) dL_law_533 (by decide) ?_
                          refine mg_iadd (pc := 534) hC dL_law_534 ?_
                          refine mg_sld (pc := 535) hC hX dL_law_535 (fun v78 _ => ?_)
                          refine mg_recv (ci := 4) (fun hb => ?_)
                          refine mg_cRI (pc := 536) (fun r hr => mg_VR (rest := [.int v74]) (av := [.int v78]) (ci := 4) hC wdX4_pairs mw_559 dL_law_536 rfl rfl ⟨Nat.le_of_ble_eq_true rfl, Nat.le_of_ble_eq_true rfl⟩ (Nat.le_of_ble_eq_true rfl) hb (kX4_pairs hr)) (fun v79 _ => ?_)
                          refine mg_icmp_eq (pc := 539) hC 1096 dL_law_539 (by decide) (fun _ => ?_) (fun _ => ?_)
                          · exact mg_sub (pc := 1096) [0, 1, 2, 3] (L' := [(0, .ref b), (1, .ref x1), (2, .ref x2), (3, .int x3)]) rfl (gL_law_b1096 hC hX  _ ih _ _ _ _ _ _ _)
                          · refine mg_iconst (pc := 542) hC (0 : Int32) dL_law_542 (by decide) ?_
                            exact mg_zretC (pc := 543) hC (by decide) rfl dL_law_543
                        · skip
                          refine mg_ite (cd := (v1 &&& (31 : Int32)) = (10 : Int32)) (fun hq => ?_) (fun h10 => ?_)
                          · rw [hq]
                            refine mg_tswC (pc := 32) hC 544 dL_law_32 (by decide) (by decide) rfl (by decide) ?_
                            refine mg_aload_n (pc := 544) hC 1 dL_law_544 rfl ?_
                            refine mg_aload_n (pc := 545) hC 0 dL_law_545 rfl ?_
                            refine mg_iload_n (pc := 546) hC 3 dL_law_546 rfl ?_
                            refine mg_iconst (pc := 547) hC (1 : Int32) dL_law_547 (by decide) ?_
                            refine mg_iadd (pc := 548) hC dL_law_548 ?_
                            refine mg_sld (pc := 549) hC hX dL_law_549 (fun v80 _ => ?_)
                            refine mg_aload_n (pc := 550) hC 0 dL_law_550 rfl ?_
                            refine mg_iload_n (pc := 551) hC 3 dL_law_551 rfl ?_
                            refine mg_iconst (pc := 552) hC (2 : Int32) dL_law_552 (by decide) ?_
                            refine mg_iadd (pc := 553) hC dL_law_553 ?_
                            refine mg_sld (pc := 554) hC hX dL_law_554 (fun v81 _ => ?_)
                            refine mg_aload_n (pc := 555) hC 0 dL_law_555 rfl ?_
                            refine mg_iload_n (pc := 556) hC 3 dL_law_556 rfl ?_
                            refine mg_iconst (pc := 557) hC (3 : Int32) dL_law_557 (by decide) ?_
                            refine mg_iadd (pc := 558) hC dL_law_558 ?_
                            refine mg_sld (pc := 559) hC hX dL_law_559 (fun v82 _ => ?_)
                            refine mg_recv (ci := 3) (fun hb => ?_)
                            refine mg_cAI (pc := 560) (fun r hr => mg_VR (rest := []) (av := [.int v80, .int v81, .int v82]) (ci := 3) hC wdX3_pair mw_246 dL_law_560 rfl rfl ⟨Nat.le_of_ble_eq_true rfl, Nat.le_of_ble_eq_true rfl⟩ (Nat.le_of_ble_eq_true rfl) hb (kX3_pair hr)) (fun v83 w84 kc85 ks86 _ => ?_)
                            refine mg_aload_n (pc := 563) hC 2 dL_law_563 rfl ?_
                            refine mg_aload_n (pc := 564) hC 0 dL_law_564 rfl ?_
                            refine mg_iload_n (pc := 565) hC 3 dL_law_565 rfl ?_
                            refine mg_iconst (pc := 566) hC (1 : Int32) dL_law_566 (by decide) ?_
                            refine mg_iadd (pc := 567) hC dL_law_567 ?_
                            refine mg_sld (pc := 568) hC hX dL_law_568 (fun v87 _ => ?_)
                            refine mg_aload_n (pc := 569) hC 0 dL_law_569 rfl ?_
                            refine mg_iload_n (pc := 570) hC 3 dL_law_570 rfl ?_
                            refine mg_iconst (pc := 571) hC (2 : Int32) dL_law_571 (by decide) ?_
                            refine mg_iadd (pc := 572) hC dL_law_572 ?_
                            refine mg_sld (pc := 573) hC hX dL_law_573 (fun v88 _ => ?_)
                            refine mg_aload_n (pc := 574) hC 0 dL_law_574 rfl ?_
                            refine mg_iload_n (pc := 575) hC 3 dL_law_575 rfl ?_
                            refine mg_iconst (pc := 576) hC (3 : Int32) dL_law_576 (by decide) ?_
                            refine mg_iadd (pc := 577) hC dL_law_577 ?_
                            refine mg_sld (pc := 578) hC hX dL_law_578 (fun v89 _ => ?_)
                            refine mg_recv (ci := 4) (fun hb => ?_)
                            refine mg_cRI (pc := 579) (fun r hr => mg_VR (rest := [.int v83]) (av := [.int v87, .int v88, .int v89]) (ci := 4) hC wdX4_pair mw_564 dL_law_579 rfl rfl ⟨Nat.le_of_ble_eq_true rfl, Nat.le_of_ble_eq_true rfl⟩ (Nat.le_of_ble_eq_true rfl) hb (kX4_pair hr)) (fun v90 _ => ?_)
                            refine mg_icmp_eq (pc := 582) hC 1096 dL_law_582 (by decide) (fun _ => ?_) (fun _ => ?_)
                            · exact mg_sub (pc := 1096) [0, 1, 2, 3] (L' := [(0, .ref b), (1, .ref x1), (2, .ref x2), (3, .int x3)]) rfl (gL_law_b1096 hC hX  _ ih _ _ _ _ _ _ _)
                            · refine mg_iconst (pc := 585) hC (0 : Int32) dL_law_585 (by decide) ?_
                              exact mg_zretC (pc := 586) hC (by decide) rfl dL_law_586
                          · skip
                            refine mg_ite (cd := (v1 &&& (31 : Int32)) = (11 : Int32)) (fun hq => ?_) (fun h11 => ?_)
                            · rw [hq]
                              refine mg_tswC (pc := 32) hC 587 dL_law_32 (by decide) (by decide) rfl (by decide) ?_
                              refine mg_aload_n (pc := 587) hC 1 dL_law_587 rfl ?_
                              refine mg_aload_n (pc := 588) hC 0 dL_law_588 rfl ?_
                              refine mg_iload_n (pc := 589) hC 3 dL_law_589 rfl ?_
                              refine mg_iconst (pc := 590) hC (1 : Int32) dL_law_590 (by decide) ?_
                              refine mg_iadd (pc := 591) hC dL_law_591 ?_
                              refine mg_sld (pc := 592) hC hX dL_law_592 (fun v91 _ => ?_)
                              refine mg_recv (ci := 3) (fun hb => ?_)
                              refine mg_cAI (pc := 593) (fun r hr => mg_VR (rest := []) (av := [.int v91]) (ci := 3) hC wdX3_partner mw_259 dL_law_593 rfl rfl ⟨Nat.le_of_ble_eq_true rfl, Nat.le_of_ble_eq_true rfl⟩ (Nat.le_of_ble_eq_true rfl) hb (kX3_partner hr)) (fun v92 w93 kc94 ks95 _ => ?_)
                              refine mg_aload_n (pc := 596) hC 2 dL_law_596 rfl ?_
                              refine mg_aload_n (pc := 597) hC 0 dL_law_597 rfl ?_
                              refine mg_iload_n (pc := 598) hC 3 dL_law_598 rfl ?_
                              refine mg_iconst (pc := 599) hC (1 : Int32) dL_law_599 (by decide) ?_
                              refine mg_iadd (pc := 600) hC dL_law_600 ?_
                              refine mg_sld (pc := 601) hC hX dL_law_601 (fun v96 _ => ?_)
                              refine mg_recv (ci := 4) (fun hb => ?_)
                              refine mg_cSI (pc := 602) (fun r hr => mg_VR (rest := [.int v92]) (av := [.int v96]) (ci := 4) hC wdX4_partner mw_573 dL_law_602 rfl rfl ⟨Nat.le_of_ble_eq_true rfl, Nat.le_of_ble_eq_true rfl⟩ (Nat.le_of_ble_eq_true rfl) hb (kX4_partner hr)) (fun v97 w98 _ => ?_)
                              refine mg_icmp_eq (pc := 605) hC 1096 dL_law_605 (by decide) (fun _ => ?_) (fun _ => ?_)
                              · exact mg_sub (pc := 1096) [0, 1, 2, 3] (L' := [(0, .ref b), (1, .ref x1), (2, .ref x2), (3, .int x3)]) rfl (gL_law_b1096 hC hX  _ ih _ _ _ _ _ _ _)
                              · refine mg_iconst (pc := 608) hC (0 : Int32) dL_law_608 (by decide) ?_
                                exact mg_zretC (pc := 609) hC (by decide) rfl dL_law_609
                            · skip
                              refine mg_ite (cd := (v1 &&& (31 : Int32)) = (12 : Int32)) (fun hq => ?_) (fun h12 => ?_)
                              · rw [hq]
                                refine mg_tswC (pc := 32) hC 610 dL_law_32 (by decide) (by decide) rfl (by decide) ?_
                                refine mg_aload_n (pc := 610) hC 1 dL_law_610 rfl ?_
                                refine mg_aload_n (pc := 611) hC 0 dL_law_611 rfl ?_
                                refine mg_iload_n (pc := 612) hC 3 dL_law_612 rfl ?_
                                refine mg_iconst (pc := 613) hC (1 : Int32) dL_law_613 (by decide) ?_
                                refine mg_iadd (pc := 614) hC dL_law_614 ?_
                                refine mg_sld (pc := 615) hC hX dL_law_615 (fun v99 _ => ?_)
                                refine mg_aload_n (pc := 616) hC 0 dL_law_616 rfl ?_
                                refine mg_iload_n (pc := 617) hC 3 dL_law_617 rfl ?_
                                refine mg_iconst (pc := 618) hC (2 : Int32) dL_law_618 (by decide) ?_
                                refine mg_iadd (pc := 619) hC dL_law_619 ?_
                                refine mg_sld (pc := 620) hC hX dL_law_620 (fun v100 _ => ?_)
                                refine mg_recv (ci := 3) (fun hb => ?_)
                                refine mg_cAI (pc := 621) (fun r hr => mg_VR (rest := []) (av := [.int v99, .int v100]) (ci := 3) hC wdX3_held mw_281 dL_law_621 rfl rfl ⟨Nat.le_of_ble_eq_true rfl, Nat.le_of_ble_eq_true rfl⟩ (Nat.le_of_ble_eq_true rfl) hb (kX3_held hr)) (fun v101 w102 kc103 ks104 _ => ?_)
                                refine mg_aload_n (pc := 624) hC 2 dL_law_624 rfl ?_
                                refine mg_aload_n (pc := 625) hC 0 dL_law_625 rfl ?_
                                refine mg_iload_n (pc := 626) hC 3 dL_law_626 rfl ?_
                                refine mg_iconst (pc := 627) hC (1 : Int32) dL_law_627 (by decide) ?_
                                refine mg_iadd (pc := 628) hC dL_law_628 ?_
                                refine mg_sld (pc := 629) hC hX dL_law_629 (fun v105 _ => ?_)
                                refine mg_aload_n (pc := 630) hC 0 dL_law_630 rfl ?_
                                refine mg_iload_n (pc := 631) hC 3 dL_law_631 rfl ?_
                                refine mg_iconst (pc := 632) hC (2 : Int32) dL_law_632 (by decide) ?_
                                refine mg_iadd (pc := 633) hC dL_law_633 ?_
                                refine mg_sld (pc := 634) hC hX dL_law_634 (fun v106 _ => ?_)
                                refine mg_recv (ci := 4) (fun hb => ?_)
                                refine mg_cRI (pc := 635) (fun r hr => mg_VR (rest := [.int v101]) (av := [.int v105, .int v106]) (ci := 4) hC wdX4_held mw_581 dL_law_635 rfl rfl ⟨Nat.le_of_ble_eq_true rfl, Nat.le_of_ble_eq_true rfl⟩ (Nat.le_of_ble_eq_true rfl) hb (kX4_held hr)) (fun v107 _ => ?_)
                                refine mg_icmp_eq (pc := 638) hC 1096 dL_law_638 (by decide) (fun _ => ?_) (fun _ => ?_)
                                · exact mg_sub (pc := 1096) [0, 1, 2, 3] (L' := [(0, .ref b), (1, .ref x1), (2, .ref x2), (3, .int x3)]) rfl (gL_law_b1096 hC hX  _ ih _ _ _ _ _ _ _)
                                · refine mg_iconst (pc := 641) hC (0 : Int32) dL_law_641 (by decide) ?_
                                  exact mg_zretC (pc := 642) hC (by decide) rfl dL_law_642
                              · skip
                                refine mg_ite (cd := (v1 &&& (31 : Int32)) = (13 : Int32)) (fun hq => ?_) (fun h13 => ?_)
                                · rw [hq]
                                  refine mg_tswC (pc := 32) hC 643 dL_law_32 (by decide) (by decide) rfl (by decide) ?_
                                  refine mg_aload_n (pc := 643) hC 1 dL_law_643 rfl ?_
                                  refine mg_aload_n (pc := 644) hC 0 dL_law_644 rfl ?_
                                  refine mg_iload_n (pc := 645) hC 3 dL_law_645 rfl ?_
                                  refine mg_iconst (pc := 646) hC (1 : Int32) dL_law_646 (by decide) ?_
                                  refine mg_iadd (pc := 647) hC dL_law_647 ?_
                                  refine mg_sld (pc := 648) hC hX dL_law_648 (fun v108 _ => ?_)
                                  refine mg_aload_n (pc := 649) hC 0 dL_law_649 rfl ?_
                                  refine mg_iload_n (pc := 650) hC 3 dL_law_650 rfl ?_
                                  refine mg_iconst (pc := 651) hC (2 : Int32) dL_law_651 (by decide) ?_
                                  refine mg_iadd (pc := 652) hC dL_law_652 ?_
                                  refine mg_sld (pc := 653) hC hX dL_law_653 (fun v109 _ => ?_)
                                  refine mg_aload_n (pc := 654) hC 0 dL_law_654 rfl ?_
                                  refine mg_iload_n (pc := 655) hC 3 dL_law_655 rfl ?_
                                  refine mg_iconst (pc := 656) hC (3 : Int32) dL_law_656 (by decide) ?_
                                  refine mg_iadd (pc := 657) hC dL_law_657 ?_
                                  refine mg_sld (pc := 658) hC hX dL_law_658 (fun v110 _ => ?_)
                                  refine mg_aload_n (pc := 659) hC 0 dL_law_659 rfl ?_
                                  refine mg_iload_n (pc := 660) hC 3 dL_law_660 rfl ?_
                                  refine mg_iconst (pc := 661) hC (4 : Int32) dL_law_661 (by decide) ?_
                                  refine mg_iadd (pc := 662) hC dL_law_662 ?_
                                  refine mg_sld (pc := 663) hC hX dL_law_663 (fun v111 _ => ?_)
                                  refine mg_recv (ci := 3) (fun hb => ?_)
                                  refine mg_cAI (pc := 664) (fun r hr => mg_VR (rest := []) (av := [.int v108, .int v109, .int v110, .int v111]) (ci := 3) hC wdX3_holder mw_289 dL_law_664 rfl rfl ⟨Nat.le_of_ble_eq_true rfl, Nat.le_of_ble_eq_true rfl⟩ (Nat.le_of_ble_eq_true rfl) hb (kX3_holder hr)) (fun v112 w113 kc114 ks115 _ => ?_)
                                  refine mg_aload_n (pc := 667) hC 2 dL_law_667 rfl ?_
                                  refine mg_aload_n (pc := 668) hC 0 dL_law_668 rfl ?_
                                  refine mg_iload_n (pc := 669) hC 3 dL_law_669 rfl ?_
                                  refine mg_iconst (pc := 670) hC (1 : Int32) dL_law_670 (by decide) ?_
                                  refine mg_iadd (pc := 671) hC dL_law_671 ?_
                                  refine mg_sld (pc := 672) hC hX dL_law_672 (fun v116 _ => ?_)
                                  refine mg_aload_n (pc := 673) hC 0 dL_law_673 rfl ?_
                                  refine mg_iload_n (pc := 674) hC 3 dL_law_674 rfl ?_
                                  refine mg_iconst (pc := 675) hC (2 : Int32) dL_law_675 (by decide) ?_
                                  refine mg_iadd (pc := 676) hC dL_law_676 ?_
                                  refine mg_sld (pc := 677) hC hX dL_law_677 (fun v117 _ => ?_)
                                  refine mg_aload_n (pc := 678) hC 0 dL_law_678 rfl ?_
                                  refine mg_iload_n (pc := 679) hC 3 dL_law_679 rfl ?_
                                  refine mg_iconst (pc := 680) hC (3 : Int32) dL_law_680 (by decide) ?_
                                  refine mg_iadd (pc := 681) hC dL_law_681 ?_
                                  refine mg_sld (pc := 682) hC hX dL_law_682 (fun v118 _ => ?_)
                                  refine mg_aload_n (pc := 683) hC 0 dL_law_683 rfl ?_
                                  refine mg_iload_n (pc := 684) hC 3 dL_law_684 rfl ?_
                                  refine mg_iconst (pc := 685) hC (4 : Int32) dL_law_685 (by decide) ?_
                                  refine mg_iadd (pc := 686) hC dL_law_686 ?_
                                  refine mg_sld (pc := 687) hC hX dL_law_687 (fun v119 _ => ?_)
                                  refine mg_recv (ci := 4) (fun hb => ?_)
                                  refine mg_cRI (pc := 688) (fun r hr => mg_VR (rest := [.int v112]) (av := [.int v116, .int v117, .int v118, .int v119]) (ci := 4) hC wdX4_holder mw_589 dL_law_688 rfl rfl ⟨Nat.le_of_ble_eq_true rfl, Nat.le_of_ble_eq_true rfl⟩ (Nat.le_of_ble_eq_true rfl) hb (kX4_holder hr)) (fun v120 _ => ?_)
                                  refine mg_icmp_eq (pc := 691) hC 1096 dL_law_691 (by decide) (fun _ => ?_) (fun _ => ?_)
                                  · exact mg_sub (pc := 1096) [0, 1, 2, 3] (L' := [(0, .ref b), (1, .ref x1), (2, .ref x2), (3, .int x3)]) rfl (gL_law_b1096 hC hX  _ ih _ _ _ _ _ _ _)
                                  · refine mg_iconst (pc := 694) hC (0 : Int32) dL_law_694 (by decide) ?_
                                    exact mg_zretC (pc := 695) hC (by decide) rfl dL_law_695
                                · skip
                                  refine mg_ite (cd := (v1 &&& (31 : Int32)) = (14 : Int32)) (fun hq => ?_) (fun h14 => ?_)
                                  · rw [hq]
                                    refine mg_tswC (pc := 32) hC 696 dL_law_32 (by decide) (by decide) rfl (by decide) ?_
                                    refine mg_aload_n (pc := 696) hC 1 dL_law_696 rfl ?_
                                    refine mg_aload_n (pc := 697) hC 0 dL_law_697 rfl ?_
                                    refine mg_iload_n (pc := 698) hC 3 dL_law_698 rfl ?_
                                    refine mg_iconst (pc := 699) hC (1 : Int32) dL_law_699 (by decide) ?_
                                    refine mg_iadd (pc := 700) hC dL_law_700 ?_
                                    refine mg_sld (pc := 701) hC hX dL_law_701 (fun v121 _ => ?_)
                                    refine mg_aload_n (pc := 702) hC 0 dL_law_702 rfl ?_
                                    refine mg_iload_n (pc := 703) hC 3 dL_law_703 rfl ?_
                                    refine mg_iconst (pc := 704) hC (2 : Int32) dL_law_704 (by decide) ?_
                                    refine mg_iadd (pc := 705) hC dL_law_705 ?_
                                    refine mg_sld (pc := 706) hC hX dL_law_706 (fun v122 _ => ?_)
                                    refine mg_recv (ci := 3) (fun hb => ?_)
                                    refine mg_cAI (pc := 707) (fun r hr => mg_VR (rest := []) (av := [.int v121, .int v122]) (ci := 3) hC wdX3_holds mw_302 dL_law_707 rfl rfl ⟨Nat.le_of_ble_eq_true rfl, Nat.le_of_ble_eq_true rfl⟩ (Nat.le_of_ble_eq_true rfl) hb (kX3_holds hr)) (fun v123 w124 kc125 ks126 _ => ?_)
                                    refine mg_aload_n (pc := 710) hC 2 dL_law_710 rfl ?_
                                    refine mg_aload_n (pc := 711) hC 0 dL_law_711 rfl ?_
                                    refine mg_iload_n (pc := 712) hC 3 dL_law_712 rfl ?_
                                    refine mg_iconst (pc := 713) hC (1 : Int32) dL_law_713 (by decide) ?_
                                    refine mg_iadd (pc := 714) hC dL_law_714 ?_
                                    refine mg_sld (pc := 715) hC hX dL_law_715 (fun v127 _ => ?_)
                                    refine mg_aload_n (pc := 716) hC 0 dL_law_716 rfl ?_
                                    refine mg_iload_n (pc := 717) hC 3 dL_law_717 rfl ?_
                                    refine mg_iconst (pc := 718) hC (2 : Int32) dL_law_718 (by decide) ?_
                                    refine mg_iadd (pc := 719) hC dL_law_719 ?_
                                    refine mg_sld (pc := 720) hC hX dL_law_720 (fun v128 _ => ?_)
                                    refine mg_recv (ci := 4) (fun hb => ?_)
                                    refine mg_cRI (pc := 721) (fun r hr => mg_VR (rest := [.int v123]) (av := [.int v127, .int v128]) (ci := 4) hC wdX4_holds mw_597 dL_law_721 rfl rfl ⟨Nat.le_of_ble_eq_true rfl, Nat.le_of_ble_eq_true rfl⟩ (Nat.le_of_ble_eq_true rfl) hb (kX4_holds hr)) (fun v129 _ => ?_)
                                    refine mg_icmp_eq (pc := 724) hC 1096 dL_law_724 (by decide) (fun _ => ?_) (fun _ => ?_)
                                    · exact mg_sub (pc := 1096) [0, 1, 2, 3] (L' := [(0, .ref b), (1, .ref x1), (2, .ref x2), (3, .int x3)]) rfl (gL_law_b1096 hC hX  _ ih _ _ _ _ _ _ _)
                                    · refine mg_iconst (pc := 727) hC (0 : Int32) dL_law_727 (by decide) ?_
                                      exact mg_zretC (pc := 728) hC (by decide) rfl dL_law_728
                                  · skip
                                    refine mg_ite (cd := (v1 &&& (31 : Int32)) = (15 : Int32)) (fun hq => ?_) (fun h15 => ?_)
                                    · rw [hq]
                                      refine mg_tswC (pc := 32) hC 729 dL_law_32 (by decide) (by decide) rfl (by decide) ?_
                                      refine mg_aload_n (pc := 729) hC 1 dL_law_729 rfl ?_
                                      refine mg_aload_n (pc := 730) hC 0 dL_law_730 rfl ?_
                                      refine mg_iload_n (pc := 731) hC 3 dL_law_731 rfl ?_
                                      refine mg_iconst (pc := 732) hC (1 : Int32) dL_law_732 (by decide) ?_
                                      refine mg_iadd (pc := 733) hC dL_law_733 ?_
                                      refine mg_sld (pc := 734) hC hX dL_law_734 (fun v130 _ => ?_)
                                      refine mg_aload_n (pc := 735) hC 0 dL_law_735 rfl ?_
                                      refine mg_iload_n (pc := 736) hC 3 dL_law_736 rfl ?_
                                      refine mg_iconst (pc := 737) hC (2 : Int32) dL_law_737 (by decide) ?_
                                      refine mg_iadd (pc := 738) hC dL_law_738 ?_
                                      refine mg_sld (pc := 739) hC hX dL_law_739 (fun v131 _ => ?_)
                                      refine mg_aload_n (pc := 740) hC 0 dL_law_740 rfl ?_
                                      refine mg_iload_n (pc := 741) hC 3 dL_law_741 rfl ?_
                                      refine mg_iconst (pc := 742) hC (3 : Int32) dL_law_742 (by decide) ?_
                                      refine mg_iadd (pc := 743) hC dL_law_743 ?_
                                      refine mg_sld (pc := 744) hC hX dL_law_744 (fun v132 _ => ?_)
                                      refine mg_recv (ci := 3) (fun hb => ?_)
                                      refine mg_cAI (pc := 745) (fun r hr => mg_VR (rest := []) (av := [.int v130, .int v131, .int v132]) (ci := 3) hC wdX3_between mw_310 dL_law_745 rfl rfl ⟨Nat.le_of_ble_eq_true rfl, Nat.le_of_ble_eq_true rfl⟩ (Nat.le_of_ble_eq_true rfl) hb (kX3_between hr)) (fun v133 w134 kc135 ks136 _ => ?_)
                                      refine mg_aload_n (pc := 748) hC 2 dL_law_748 rfl ?_
                                      refine mg_aload_n (pc := 749) hC 0 dL_law_749 rfl ?_
                                      refine mg_iload_n (pc := 750) hC 3 dL_law_750 rfl ?_
                                      refine mg_iconst (pc := 751) hC (1 : Int32) dL_law_751 (by decide) ?_
                                      refine mg_iadd (pc := 752) hC dL_law_752 ?_
                                      refine mg_sld (pc := 753) hC hX dL_law_753 (fun v137 _ => ?_)
                                      refine mg_aload_n (pc := 754) hC 0 dL_law_754 rfl ?_
                                      refine mg_iload_n (pc := 755) hC 3 dL_law_755 rfl ?_
                                      refine mg_iconst (pc := 756) hC (2 : Int32) dL_law_756 (by decide) ?_
                                      refine mg_iadd (pc := 757) hC dL_law_757 ?_
                                      refine mg_sld (pc := 758) hC hX dL_law_758 (fun v138 _ => ?_)
                                      refine mg_aload_n (pc := 759) hC 0 dL_law_759 rfl ?_
                                      refine mg_iload_n (pc := 760) hC 3 dL_law_760 rfl ?_
                                      refine mg_iconst (pc := 761) hC (3 : Int32) dL_law_761 (by decide) ?_
                                      refine mg_iadd (pc := 762) hC dL_law_762 ?_
                                      refine mg_sld (pc := 763) hC hX dL_law_763 (fun v139 _ => ?_)
                                      refine mg_recv (ci := 4) (fun hb => ?_)
                                      refine mg_cRI (pc := 764) (fun r hr => mg_VR (rest := [.int v133]) (av := [.int v137, .int v138, .int v139]) (ci := 4) hC wdX4_between mw_601 dL_law_764 rfl rfl ⟨Nat.le_of_ble_eq_true rfl, Nat.le_of_ble_eq_true rfl⟩ (Nat.le_of_ble_eq_true rfl) hb (kX4_between hr)) (fun v140 _ => ?_)
                                      refine mg_icmp_eq (pc := 767) hC 1096 dL_law_767 (by decide) (fun _ => ?_) (fun _ => ?_)
                                      · exact mg_sub (pc := 1096) [0, 1, 2, 3] (L' := [(0, .ref b), (1, .ref x1), (2, .ref x2), (3, .int x3)]) rfl (gL_law_b1096 hC hX  _ ih _ _ _ _ _ _ _)
                                      · refine mg_iconst (pc := 770) hC (0 : Int32) dL_law_770 (by decide) ?_
                                        exact mg_zretC (pc := 771) hC (by decide) rfl dL_law_771
                                    · skip
                                      refine mg_ite (cd := (v1 &&& (31 : Int32)) = (16 : Int32)) (fun hq => ?_) (fun h16 => ?_)
                                      · rw [hq]
                                        refine mg_tswC (pc := 32) hC 772 dL_law_32 (by decide) (by decide) rfl (by decide) ?_
                                        refine mg_aload_n (pc := 772) hC 1 dL_law_772 rfl ?_
                                        refine mg_aload_n (pc := 773) hC 0 dL_law_773 rfl ?_
                                        refine mg_iload_n (pc := 774) hC 3 dL_law_774 rfl ?_
                                        refine mg_iconst (pc := 775) hC (1 : Int32) dL_law_775 (by decide) ?_
                                        refine mg_iadd (pc := 776) hC dL_law_776 ?_
                                        refine mg_sld (pc := 777) hC hX dL_law_777 (fun v141 _ => ?_)
                                        refine mg_aload_n (pc := 778) hC 0 dL_law_778 rfl ?_
                                        refine mg_iload_n (pc := 779) hC 3 dL_law_779 rfl ?_
                                        refine mg_iconst (pc := 780) hC (2 : Int32) dL_law_780 (by decide) ?_
                                        refine mg_iadd (pc := 781) hC dL_law_781 ?_
                                        refine mg_sld (pc := 782) hC hX dL_law_782 (fun v142 _ => ?_)
                                        refine mg_recv (ci := 3) (fun hb => ?_)
                                        refine mg_cAI (pc := 783) (fun r hr => mg_VR (rest := []) (av := [.int v141, .int v142]) (ci := 3) hC wdX3_wide mw_319 dL_law_783 rfl rfl ⟨Nat.le_of_ble_eq_true rfl, Nat.le_of_ble_eq_true rfl⟩ (Nat.le_of_ble_eq_true rfl) hb (kX3_wide hr)) (fun v143 w144 kc145 ks146 _ => ?_)
                                        refine mg_aload_n (pc := 786) hC 2 dL_law_786 rfl ?_
                                        refine mg_aload_n (pc := 787) hC 0 dL_law_787 rfl ?_
                                        refine mg_iload_n (pc := 788) hC 3 dL_law_788 rfl ?_
                                        refine mg_iconst (pc := 789) hC (1 : Int32) dL_law_789 (by decide) ?_
                                        refine mg_iadd (pc := 790) hC dL_law_790 ?_
                                        refine mg_sld (pc := 791) hC hX dL_law_791 (fun v147 _ => ?_)
                                        refine mg_aload_n (pc := 792) hC 0 dL_law_792 rfl ?_
                                        refine mg_iload_n (pc := 793) hC 3 dL_law_793 rfl ?_
                                        refine mg_iconst (pc := 794) hC (2 : Int32) dL_law_794 (by decide) ?_
                                        refine mg_iadd (pc := 795) hC dL_law_795 ?_
                                        refine mg_sld (pc := 796) hC hX dL_law_796 (fun v148 _ => ?_)
                                        refine mg_recv (ci := 4) (fun hb => ?_)
                                        refine mg_cRI (pc := 797) (fun r hr => mg_VR (rest := [.int v143]) (av := [.int v147, .int v148]) (ci := 4) hC wdX4_wide mw_605 dL_law_797 rfl rfl ⟨Nat.le_of_ble_eq_true rfl, Nat.le_of_ble_eq_true rfl⟩ (Nat.le_of_ble_eq_true rfl) hb (kX4_wide hr)) (fun v149 _ => ?_)
                                        refine mg_icmp_eq (pc := 800) hC 1096 dL_law_800 (by decide) (fun _ => ?_) (fun _ => ?_)
                                        · exact mg_sub (pc := 1096) [0, 1, 2, 3] (L' := [(0, .ref b), (1, .ref x1), (2, .ref x2), (3, .int x3)]) rfl (gL_law_b1096 hC hX  _ ih _ _ _ _ _ _ _)
                                        · refine mg_iconst (pc := 803) hC (0 : Int32) dL_law_803 (by decide) ?_
                                          exact mg_zretC (pc := 804) hC (by decide) rfl dL_law_804
                                      · skip
                                        refine mg_ite (cd := (v1 &&& (31 : Int32)) = (17 : Int32)) (fun hq => ?_) (fun h17 => ?_)
                                        · rw [hq]
                                          refine mg_tswC (pc := 32) hC 805 dL_law_32 (by decide) (by decide) rfl (by decide) ?_
                                          refine mg_aload_n (pc := 805) hC 1 dL_law_805 rfl ?_
                                          refine mg_aload_n (pc := 806) hC 0 dL_law_806 rfl ?_
                                          refine mg_iload_n (pc := 807) hC 3 dL_law_807 rfl ?_
                                          refine mg_iconst (pc := 808) hC (1 : Int32) dL_law_808 (by decide) ?_
                                          refine mg_iadd (pc := 809) hC dL_law_809 ?_
                                          refine mg_sld (pc := 810) hC hX dL_law_810 (fun v150 _ => ?_)
                                          refine mg_aload_n (pc := 811) hC 0 dL_law_811 rfl ?_
                                          refine mg_iload_n (pc := 812) hC 3 dL_law_812 rfl ?_
                                          refine mg_iconst (pc := 813) hC (2 : Int32) dL_law_813 (by decide) ?_
                                          refine mg_iadd (pc := 814) hC dL_law_814 ?_
                                          refine mg_sld (pc := 815) hC hX dL_law_815 (fun v151 _ => ?_)
                                          refine mg_recv (ci := 3) (fun hb => ?_)
                                          refine mg_cRI (pc := 816) (fun r hr => mg_VR (rest := []) (av := [.int v150, .int v151]) (ci := 3) hC wdX3_digit mw_327 dL_law_816 rfl rfl ⟨Nat.le_of_ble_eq_true rfl, Nat.le_of_ble_eq_true rfl⟩ (Nat.le_of_ble_eq_true rfl) hb (kX3_digit hr)) (fun v152 _ => ?_)
                                          refine mg_aload_n (pc := 819) hC 2 dL_law_819 rfl ?_
                                          refine mg_aload_n (pc := 820) hC 0 dL_law_820 rfl ?_
                                          refine mg_iload_n (pc := 821) hC 3 dL_law_821 rfl ?_
                                          refine mg_iconst (pc := 822) hC (1 : Int32) dL_law_822 (by decide) ?_
                                          refine mg_iadd (pc := 823) hC dL_law_823 ?_
                                          refine mg_sld (pc := 824) hC hX dL_law_824 (fun v153 _ => ?_)
                                          refine mg_aload_n (pc := 825) hC 0 dL_law_825 rfl ?_
                                          refine mg_iload_n (pc := 826) hC 3 dL_law_826 rfl ?_
                                          refine mg_iconst (pc := 827) hC (2 : Int32) dL_law_827 (by decide) ?_
                                          refine mg_iadd (pc := 828) hC dL_law_828 ?_
                                          refine mg_sld (pc := 829) hC hX dL_law_829 (fun v154 _ => ?_)
                                          refine mg_recv (ci := 4) (fun hb => ?_)
                                          refine mg_cRI (pc := 830) (fun r hr => mg_VR (rest := [.int v152]) (av := [.int v153, .int v154]) (ci := 4) hC wdX4_digit mw_613 dL_law_830 rfl rfl ⟨Nat.le_of_ble_eq_true rfl, Nat.le_of_ble_eq_true rfl⟩ (Nat.le_of_ble_eq_true rfl) hb (kX4_digit hr)) (fun v155 _ => ?_)
                                          refine mg_icmp_eq (pc := 833) hC 1096 dL_law_833 (by decide) (fun _ => ?_) (fun _ => ?_)
                                          · exact mg_sub (pc := 1096) [0, 1, 2, 3] (L' := [(0, .ref b), (1, .ref x1), (2, .ref x2), (3, .int x3)]) rfl (gL_law_b1096 hC hX  _ ih _ _ _ _ _ _ _)
                                          · refine mg_iconst (pc := 836) hC (0 : Int32) dL_law_836 (by decide) ?_
                                            exact mg_zretC (pc := 837) hC (by decide) rfl dL_law_837
                                        · skip
                                          refine mg_ite (cd := (v1 &&& (31 : Int32)) = (18 : Int32)) (fun hq => ?_) (fun h18 => ?_)
                                          · rw [hq]
                                            refine mg_tswC (pc := 32) hC 838 dL_law_32 (by decide) (by decide) rfl (by decide) ?_
                                            refine mg_aload_n (pc := 838) hC 1 dL_law_838 rfl ?_
                                            refine mg_aload_n (pc := 839) hC 0 dL_law_839 rfl ?_
                                            refine mg_iload_n (pc := 840) hC 3 dL_law_840 rfl ?_
                                            refine mg_iconst (pc := 841) hC (1 : Int32) dL_law_841 (by decide) ?_
                                            refine mg_iadd (pc := 842) hC dL_law_842 ?_
                                            refine mg_sld (pc := 843) hC hX dL_law_843 (fun v156 _ => ?_)
                                            refine mg_aload_n (pc := 844) hC 0 dL_law_844 rfl ?_
                                            refine mg_iload_n (pc := 845) hC 3 dL_law_845 rfl ?_
                                            refine mg_iconst (pc := 846) hC (2 : Int32) dL_law_846 (by decide) ?_
                                            refine mg_iadd (pc := 847) hC dL_law_847 ?_
                                            refine mg_sld (pc := 848) hC hX dL_law_848 (fun v157 _ => ?_)
                                            refine mg_recv (ci := 3) (fun hb => ?_)
                                            refine mg_cAI (pc := 849) (fun r hr => mg_VR (rest := []) (av := [.int v156, .int v157]) (ci := 3) hC wdX3_put mw_331 dL_law_849 rfl rfl ⟨Nat.le_of_ble_eq_true rfl, Nat.le_of_ble_eq_true rfl⟩ (Nat.le_of_ble_eq_true rfl) hb (kX3_put hr)) (fun v158 w159 kc160 ks161 _ => ?_)
                                            refine mg_aload_n (pc := 852) hC 2 dL_law_852 rfl ?_
                                            refine mg_aload_n (pc := 853) hC 0 dL_law_853 rfl ?_
                                            refine mg_iload_n (pc := 854) hC 3 dL_law_854 rfl ?_
                                            refine mg_iconst (pc := 855) hC (1 : Int32) dL_law_855 (by decide) ?_
                                            refine mg_iadd (pc := 856) hC dL_law_856 ?_
                                            refine mg_sld (pc := 857) hC hX dL_law_857 (fun v162 _ => ?_)
                                            refine mg_aload_n (pc := 858) hC 0 dL_law_858 rfl ?_
                                            refine mg_iload_n (pc := 859) hC 3 dL_law_859 rfl ?_
                                            refine mg_iconst (pc := 860) hC (2 : Int32) dL_law_860 (by decide) ?_
                                            refine mg_iadd (pc := 861) hC dL_law_861 ?_
                                            refine mg_sld (pc := 862) hC hX dL_law_862 (fun v163 _ => ?_)
                                            refine mg_recv (ci := 4) (fun hb => ?_)
                                            refine mg_cSI (pc := 863) (fun r hr => mg_VR (rest := [.int v158]) (av := [.int v162, .int v163]) (ci := 4) hC wdX4_put mw_621 dL_law_863 rfl rfl ⟨Nat.le_of_ble_eq_true rfl, Nat.le_of_ble_eq_true rfl⟩ (Nat.le_of_ble_eq_true rfl) hb (kX4_put hr)) (fun v164 w165 _ => ?_)
                                            refine mg_icmp_eq (pc := 866) hC 1096 dL_law_866 (by decide) (fun _ => ?_) (fun _ => ?_)
                                            · exact mg_sub (pc := 1096) [0, 1, 2, 3] (L' := [(0, .ref b), (1, .ref x1), (2, .ref x2), (3, .int x3)]) rfl (gL_law_b1096 hC hX  _ ih _ _ _ _ _ _ _)
                                            · refine mg_iconst (pc := 869) hC (0 : Int32) dL_law_869 (by decide) ?_
                                              exact mg_zretC (pc := 870) hC (by decide) rfl dL_law_870
                                          · skip
                                            refine mg_ite (cd := (v1 &&& (31 : Int32)) = (19 : Int32)) (fun hq => ?_) (fun h19 => ?_)
                                            · rw [hq]
                                              refine mg_tswC (pc := 32) hC 871 dL_law_32 (by decide) (by decide) rfl (by decide) ?_
                                              refine mg_aload_n (pc := 871) hC 1 dL_law_871 rfl ?_
                                              refine mg_aload_n (pc := 872) hC 0 dL_law_872 rfl ?_
                                              refine mg_iload_n (pc := 873) hC 3 dL_law_873 rfl ?_
                                              refine mg_iconst (pc := 874) hC (1 : Int32) dL_law_874 (by decide) ?_
                                              refine mg_iadd (pc := 875) hC dL_law_875 ?_
                                              refine mg_sld (pc := 876) hC hX dL_law_876 (fun v166 _ => ?_)
                                              refine mg_aload_n (pc := 877) hC 0 dL_law_877 rfl ?_
                                              refine mg_iload_n (pc := 878) hC 3 dL_law_878 rfl ?_
                                              refine mg_iconst (pc := 879) hC (2 : Int32) dL_law_879 (by decide) ?_
                                              refine mg_iadd (pc := 880) hC dL_law_880 ?_
                                              refine mg_sld (pc := 881) hC hX dL_law_881 (fun v167 _ => ?_)
                                              refine mg_recv (ci := 3) (fun hb => ?_)
                                              refine mg_cAI (pc := 882) (fun r hr => mg_VR (rest := []) (av := [.int v166, .int v167]) (ci := 3) hC wdX3_take mw_339 dL_law_882 rfl rfl ⟨Nat.le_of_ble_eq_true rfl, Nat.le_of_ble_eq_true rfl⟩ (Nat.le_of_ble_eq_true rfl) hb (kX3_take hr)) (fun v168 w169 kc170 ks171 _ => ?_)
                                              refine mg_aload_n (pc := 885) hC 2 dL_law_885 rfl ?_
                                              refine mg_aload_n (pc := 886) hC 0 dL_law_886 rfl ?_
                                              refine mg_iload_n (pc := 887) hC 3 dL_law_887 rfl ?_
                                              refine mg_iconst (pc := 888) hC (1 : Int32) dL_law_888 (by decide) ?_
                                              refine mg_iadd (pc := 889) hC dL_law_889 ?_
                                              refine mg_sld (pc := 890) hC hX dL_law_890 (fun v172 _ => ?_)
                                              refine mg_aload_n (pc := 891) hC 0 dL_law_891 rfl ?_
                                              refine mg_iload_n (pc := 892) hC 3 dL_law_892 rfl ?_
                                              refine mg_iconst (pc := 893) hC (2 : Int32) dL_law_893 (by decide) ?_
                                              refine mg_iadd (pc := 894) hC dL_law_894 ?_
                                              refine mg_sld (pc := 895) hC hX dL_law_895 (fun v173 _ => ?_)
                                              refine mg_recv (ci := 4) (fun hb => ?_)
                                              refine mg_cSI (pc := 896) (fun r hr => mg_VR (rest := [.int v168]) (av := [.int v172, .int v173]) (ci := 4) hC wdX4_take mw_629 dL_law_896 rfl rfl ⟨Nat.le_of_ble_eq_true rfl, Nat.le_of_ble_eq_true rfl⟩ (Nat.le_of_ble_eq_true rfl) hb (kX4_take hr)) (fun v174 w175 _ => ?_)
                                              refine mg_icmp_eq (pc := 899) hC 1096 dL_law_899 (by decide) (fun _ => ?_) (fun _ => ?_)
                                              · exact mg_sub (pc := 1096) [0, 1, 2, 3] (L' := [(0, .ref b), (1, .ref x1), (2, .ref x2), (3, .int x3)]) rfl (gL_law_b1096 hC hX  _ ih _ _ _ _ _ _ _)
                                              · refine mg_iconst (pc := 902) hC (0 : Int32) dL_law_902 (by decide) ?_
                                                exact mg_zretC (pc := 903) hC (by decide) rfl dL_law_903
                                            · skip
                                              refine mg_ite (cd := (v1 &&& (31 : Int32)) = (20 : Int32)) (fun hq => ?_) (fun h20 => ?_)
                                              · rw [hq]
                                                refine mg_tswC (pc := 32) hC 904 dL_law_32 (by decide) (by decide) rfl (by decide) ?_
                                                refine mg_aload_n (pc := 904) hC 1 dL_law_904 rfl ?_
                                                refine mg_aload_n (pc := 905) hC 0 dL_law_905 rfl ?_
                                                refine mg_iload_n (pc := 906) hC 3 dL_law_906 rfl ?_
                                                refine mg_iconst (pc := 907) hC (1 : Int32) dL_law_907 (by decide) ?_
                                                refine mg_iadd (pc := 908) hC dL_law_908 ?_
                                                refine mg_sld (pc := 909) hC hX dL_law_909 (fun v176 _ => ?_)
                                                refine mg_aload_n (pc := 910) hC 0 dL_law_910 rfl ?_
                                                refine mg_iload_n (pc := 911) hC 3 dL_law_911 rfl ?_
                                                refine mg_iconst (pc := 912) hC (2 : Int32) dL_law_912 (by decide) ?_
                                                refine mg_iadd (pc := 913) hC dL_law_913 ?_
                                                refine mg_sld (pc := 914) hC hX dL_law_914 (fun v177 _ => ?_)
                                                refine mg_aload_n (pc := 915) hC 0 dL_law_915 rfl ?_
                                                refine mg_iload_n (pc := 916) hC 3 dL_law_916 rfl ?_
                                                refine mg_iconst (pc := 917) hC (3 : Int32) dL_law_917 (by decide) ?_
                                                refine mg_iadd (pc := 918) hC dL_law_918 ?_
                                                refine mg_sld (pc := 919) hC hX dL_law_919 (fun v178 _ => ?_)
                                                refine mg_recv (ci := 3) (fun hb => ?_)
                                                refine mg_cAI (pc := 920) (fun r hr => mg_VR (rest := []) (av := [.int v176, .int v177, .int v178]) (ci := 3) hC wdX3_sheet mw_349 dL_law_920 rfl rfl ⟨Nat.le_of_ble_eq_true rfl, Nat.le_of_ble_eq_true rfl⟩ (Nat.le_of_ble_eq_true rfl) hb (kX3_sheet hr)) (fun v179 w180 kc181 ks182 _ => ?_)
                                                refine mg_aload_n (pc := 923) hC 2 dL_law_923 rfl ?_
                                                refine mg_aload_n (pc := 924) hC 0 dL_law_924 rfl ?_
                                                refine mg_iload_n (pc := 925) hC 3 dL_law_925 rfl ?_
                                                refine mg_iconst (pc := 926) hC (1 : Int32) dL_law_926 (by decide) ?_
                                                refine mg_iadd (pc := 927) hC dL_law_927 ?_
                                                refine mg_sld (pc := 928) hC hX dL_law_928 (fun v183 _ => ?_)
                                                refine mg_aload_n (pc := 929) hC 0 dL_law_929 rfl ?_
                                                refine mg_iload_n (pc := 930) hC 3 dL_law_930 rfl ?_
                                                refine mg_iconst (pc := 931) hC (2 : Int32) dL_law_931 (by decide) ?_
                                                refine mg_iadd (pc := 932) hC dL_law_932 ?_
                                                refine mg_sld (pc := 933) hC hX dL_law_933 (fun v184 _ => ?_)
                                                refine mg_aload_n (pc := 934) hC 0 dL_law_934 rfl ?_
                                                refine mg_iload_n (pc := 935) hC 3 dL_law_935 rfl ?_
                                                refine mg_iconst (pc := 936) hC (3 : Int32) dL_law_936 (by decide) ?_
                                                refine mg_iadd (pc := 937) hC dL_law_937 ?_
                                                refine mg_sld (pc := 938) hC hX dL_law_938 (fun v185 _ => ?_)
                                                refine mg_recv (ci := 4) (fun hb => ?_)
                                                refine mg_cSI (pc := 939) (fun r hr => mg_VR (rest := [.int v179]) (av := [.int v183, .int v184, .int v185]) (ci := 4) hC wdX4_sheet mw_633 dL_law_939 rfl rfl ⟨Nat.le_of_ble_eq_true rfl, Nat.le_of_ble_eq_true rfl⟩ (Nat.le_of_ble_eq_true rfl) hb (kX4_sheet hr)) (fun v186 w187 _ => ?_)
                                                refine mg_icmp_eq (pc := 942) hC 1096 dL_law_942 (by decide) (fun _ => ?_) (fun _ => ?_)
                                                · exact mg_sub (pc := 1096) [0, 1, 2, 3] (L' := [(0, .ref b), (1, .ref x1), (2, .ref x2), (3, .int x3)]) rfl (gL_law_b1096 hC hX  _ ih _ _ _ _ _ _ _)
                                                · refine mg_iconst (pc := 945) hC (0 : Int32) dL_law_945 (by decide) ?_
                                                  exact mg_zretC (pc := 946) hC (by decide) rfl dL_law_946
                                              · skip
                                                refine mg_ite (cd := (v1 &&& (31 : Int32)) = (21 : Int32)) (fun hq => ?_) (fun h21 => ?_)
                                                · rw [hq]
                                                  refine mg_tswC (pc := 32) hC 947 dL_law_32 (by decide) (by decide) rfl (by decide) ?_
                                                  refine mg_aload_n (pc := 947) hC 1 dL_law_947 rfl ?_
                                                  refine mg_aload_n (pc := 948) hC 0 dL_law_948 rfl ?_
                                                  refine mg_iload_n (pc := 949) hC 3 dL_law_949 rfl ?_
                                                  refine mg_iconst (pc := 950) hC (1 : Int32) dL_law_950 (by decide) ?_
                                                  refine mg_iadd (pc := 951) hC dL_law_951 ?_
                                                  refine mg_sld (pc := 952) hC hX dL_law_952 (fun v188 _ => ?_)
                                                  refine mg_aload_n (pc := 953) hC 0 dL_law_953 rfl ?_
                                                  refine mg_iload_n (pc := 954) hC 3 dL_law_954 rfl ?_
                                                  refine mg_iconst (pc := 955) hC (2 : Int32) dL_law_955 (by decide) ?_
                                                  refine mg_iadd (pc := 956) hC dL_law_956 ?_
                                                  refine mg_sld (pc := 957) hC hX dL_law_957 (fun v189 _ => ?_)
                                                  refine mg_aload_n (pc := 958) hC 0 dL_law_958 rfl ?_
                                                  refine mg_iload_n (pc := 959) hC 3 dL_law_959 rfl ?_
                                                  refine mg_iconst (pc := 960) hC (3 : Int32) dL_law_960 (by decide) ?_
                                                  refine mg_iadd (pc := 961) hC dL_law_961 ?_
                                                  refine mg_sld (pc := 962) hC hX dL_law_962 (fun v190 _ => ?_)
                                                  refine mg_i2l (pc := 963) hC dL_law_963 ?_
                                                  refine mg_bipush (pc := 964) hC (32 : Int32) dL_law_964 (by decide) ?_
                                                  refine mg_lshl (pc := 966) hC dL_law_966 ?_
                                                  refine mg_aload_n (pc := 967) hC 0 dL_law_967 rfl ?_
                                                  refine mg_iload_n (pc := 968) hC 3 dL_law_968 rfl ?_
                                                  refine mg_iconst (pc := 969) hC (4 : Int32) dL_law_969 (by decide) ?_
                                                  refine mg_iadd (pc := 970) hC dL_law_970 ?_
                                                  refine mg_sld (pc := 971) hC hX dL_law_971 (fun v191 _ => ?_)
                                                  refine mg_i2l (pc := 972) hC dL_law_972 ?_
                                                  refine mg_ldc2 (pc := 973) hC (4294967295 : Int64) dL_law_973 mw_654 ?_
                                                  refine mg_land (pc := 976) hC dL_law_976 ?_
                                                  refine mg_lor (pc := 977) hC dL_law_977 ?_
                                                  refine mg_recv (ci := 3) (fun hb => ?_)
                                                  refine mg_cSI (pc := 978) (fun r hr => mg_VR (rest := []) (av := [.int v188, .int v189, .long (((v190.toInt64) <<< ((32 : Int32).toInt64 &&& 63)) ||| ((v191.toInt64) &&& (4294967295 : Int64)))]) (ci := 3) hC wdX3_lay mw_375 dL_law_978 rfl rfl ⟨Nat.le_of_ble_eq_true rfl, Nat.le_of_ble_eq_true rfl⟩ (Nat.le_of_ble_eq_true rfl) hb (kX3_lay hr)) (fun v192 w193 _ => ?_)
                                                  refine mg_aload_n (pc := 981) hC 2 dL_law_981 rfl ?_
                                                  refine mg_aload_n (pc := 982) hC 0 dL_law_982 rfl ?_
                                                  refine mg_iload_n (pc := 983) hC 3 dL_law_983 rfl ?_
                                                  refine mg_iconst (pc := 984) hC (1 : Int32) dL_law_984 (by decide) ?_
                                                  refine mg_iadd (pc := 985) hC dL_law_985 ?_
                                                  refine mg_sld (pc := 986) hC hX dL_law_986 (fun v194 _ => ?_)
                                                  refine mg_aload_n (pc := 987) hC 0 dL_law_987 rfl ?_
                                                  refine mg_iload_n (pc := 988) hC 3 dL_law_988 rfl ?_
                                                  refine mg_iconst (pc := 989) hC (2 : Int32) dL_law_989 (by decide) ?_
                                                  refine mg_iadd (pc := 990) hC dL_law_990 ?_
                                                  refine mg_sld (pc := 991) hC hX dL_law_991 (fun v195 _ => ?_)
                                                  refine mg_aload_n (pc := 992) hC 0 dL_law_992 rfl ?_
                                                  refine mg_iload_n (pc := 993) hC 3 dL_law_993 rfl ?_
                                                  refine mg_iconst (pc := 994) hC (3 : Int32) dL_law_994 (by decide) ?_
                                                  refine mg_iadd (pc := 995) hC dL_law_995 ?_
                                                  refine mg_sld (pc := 996) hC hX dL_law_996 (fun v196 _ => ?_)
                                                  refine mg_i2l (pc := 997) hC dL_law_997 ?_
                                                  refine mg_bipush (pc := 998) hC (32 : Int32) dL_law_998 (by decide) ?_
                                                  refine mg_lshl (pc := 1000) hC dL_law_1000 ?_
                                                  refine mg_aload_n (pc := 1001) hC 0 dL_law_1001 rfl ?_
                                                  refine mg_iload_n (pc := 1002) hC 3 dL_law_1002 rfl ?_
                                                  refine mg_iconst (pc := 1003) hC (4 : Int32) dL_law_1003 (by decide) ?_
                                                  refine mg_iadd (pc := 1004) hC dL_law_1004 ?_
                                                  refine mg_sld (pc := 1005) hC hX dL_law_1005 (fun v197 _ => ?_)
                                                  refine mg_i2l (pc := 1006) hC dL_law_1006 ?_
                                                  refine mg_ldc2 (pc := 1007) hC (4294967295 : Int64) dL_law_1007 mw_654 ?_
                                                  refine mg_land (pc := 1010) hC dL_law_1010 ?_
                                                  refine mg_lor (pc := 1011) hC dL_law_1011 ?_
                                                  refine mg_recv (ci := 4) (fun hb => ?_)
                                                  refine mg_cSI (pc := 1012) (fun r hr => mg_VR (rest := [.int v192]) (av := [.int v194, .int v195, .long (((v196.toInt64) <<< ((32 : Int32).toInt64 &&& 63)) ||| ((v197.toInt64) &&& (4294967295 : Int64)))]) (ci := 4) hC wdX4_lay mw_640 dL_law_1012 rfl rfl ⟨Nat.le_of_ble_eq_true rfl, Nat.le_of_ble_eq_true rfl⟩ (Nat.le_of_ble_eq_true rfl) hb (kX4_lay hr)) (fun v198 w199 _ => ?_)
                                                  refine mg_icmp_eq (pc := 1015) hC 1096 dL_law_1015 (by decide) (fun _ => ?_) (fun _ => ?_)
                                                  · exact mg_sub (pc := 1096) [0, 1, 2, 3] (L' := [(0, .ref b), (1, .ref x1), (2, .ref x2), (3, .int x3)]) rfl (gL_law_b1096 hC hX  _ ih _ _ _ _ _ _ _)
                                                  · refine mg_iconst (pc := 1018) hC (0 : Int32) dL_law_1018 (by decide) ?_
                                                    exact mg_zretC (pc := 1019) hC (by decide) rfl dL_law_1019
                                                · skip
                                                  refine mg_ite (cd := (v1 &&& (31 : Int32)) = (22 : Int32)) (fun hq => ?_) (fun h22 => ?_)
                                                  · rw [hq]
                                                    refine mg_tswC (pc := 32) hC 1020 dL_law_32 (by decide) (by decide) rfl (by decide) ?_
                                                    refine mg_aload_n (pc := 1020) hC 1 dL_law_1020 rfl ?_
                                                    refine mg_aload_n (pc := 1021) hC 0 dL_law_1021 rfl ?_
                                                    refine mg_iload_n (pc := 1022) hC 3 dL_law_1022 rfl ?_
                                                    refine mg_iconst (pc := 1023) hC (1 : Int32) dL_law_1023 (by decide) ?_
                                                    refine mg_iadd (pc := 1024) hC dL_law_1024 ?_
                                                    refine mg_sld (pc := 1025) hC hX dL_law_1025 (fun v200 _ => ?_)
                                                    refine mg_aload_n (pc := 1026) hC 0 dL_law_1026 rfl ?_
                                                    refine mg_iload_n (pc := 1027) hC 3 dL_law_1027 rfl ?_
                                                    refine mg_iconst (pc := 1028) hC (2 : Int32) dL_law_1028 (by decide) ?_
                                                    refine mg_iadd (pc := 1029) hC dL_law_1029 ?_
                                                    refine mg_sld (pc := 1030) hC hX dL_law_1030 (fun v201 _ => ?_)
                                                    refine mg_aload_n (pc := 1031) hC 0 dL_law_1031 rfl ?_
                                                    refine mg_iload_n (pc := 1032) hC 3 dL_law_1032 rfl ?_
                                                    refine mg_iconst (pc := 1033) hC (3 : Int32) dL_law_1033 (by decide) ?_
                                                    refine mg_iadd (pc := 1034) hC dL_law_1034 ?_
                                                    refine mg_sld (pc := 1035) hC hX dL_law_1035 (fun v202 _ => ?_)
                                                    refine mg_aload_n (pc := 1036) hC 0 dL_law_1036 rfl ?_
                                                    refine mg_iload_n (pc := 1037) hC 3 dL_law_1037 rfl ?_
                                                    refine mg_iconst (pc := 1038) hC (4 : Int32) dL_law_1038 (by decide) ?_
                                                    refine mg_iadd (pc := 1039) hC dL_law_1039 ?_
                                                    refine mg_sld (pc := 1040) hC hX dL_law_1040 (fun v203 _ => ?_)
                                                    refine mg_recv (ci := 3) (fun hb => ?_)
                                                    refine mg_cAI (pc := 1041) (fun r hr => mg_VR (rest := []) (av := [.int v200, .int v201, .int v202, .int v203]) (ci := 3) hC wdX3_scan mw_383 dL_law_1041 rfl rfl ⟨Nat.le_of_ble_eq_true rfl, Nat.le_of_ble_eq_true rfl⟩ (Nat.le_of_ble_eq_true rfl) hb (kX3_scan hr)) (fun v204 w205 kc206 ks207 _ => ?_)
                                                    refine mg_aload_n (pc := 1044) hC 2 dL_law_1044 rfl ?_
                                                    refine mg_aload_n (pc := 1045) hC 0 dL_law_1045 rfl ?_
                                                    refine mg_iload_n (pc := 1046) hC 3 dL_law_1046 rfl ?_
                                                    refine mg_iconst (pc := 1047) hC (1 : Int32) dL_law_1047 (by decide) ?_
                                                    refine mg_iadd (pc := 1048) hC dL_law_1048 ?_
                                                    refine mg_sld (pc := 1049) hC hX dL_law_1049 (fun v208 _ => ?_)
                                                    refine mg_aload_n (pc := 1050) hC 0 dL_law_1050 rfl ?_
                                                    refine mg_iload_n (pc := 1051) hC 3 dL_law_1051 rfl ?_
                                                    refine mg_iconst (pc := 1052) hC (2 : Int32) dL_law_1052 (by decide) ?_
                                                    refine mg_iadd (pc := 1053) hC dL_law_1053 ?_
                                                    refine mg_sld (pc := 1054) hC hX dL_law_1054 (fun v209 _ => ?_)
                                                    refine mg_aload_n (pc := 1055) hC 0 dL_law_1055 rfl ?_
                                                    refine mg_iload_n (pc := 1056) hC 3 dL_law_1056 rfl ?_
                                                    refine mg_iconst (pc := 1057) hC (3 : Int32) dL_law_1057 (by decide) ?_
                                                    refine mg_iadd (pc := 1058) hC dL_law_1058 ?_
                                                    refine mg_sld (pc := 1059) hC hX dL_law_1059 (fun v210 _ => ?_)
                                                    refine mg_aload_n (pc := 1060) hC 0 dL_law_1060 rfl ?_
                                                    refine mg_iload_n (pc := 1061) hC 3 dL_law_1061 rfl ?_
                                                    refine mg_iconst (pc := 1062) hC (4 : Int32) dL_law_1062 (by decide) ?_
                                                    refine mg_iadd (pc := 1063) hC dL_law_1063 ?_
                                                    refine mg_sld (pc := 1064) hC hX dL_law_1064 (fun v211 _ => ?_)
                                                    refine mg_recv (ci := 4) (fun hb => ?_)
                                                    refine mg_cSI (pc := 1065) (fun r hr => mg_VR (rest := [.int v204]) (av := [.int v208, .int v209, .int v210, .int v211]) (ci := 4) hC wdX4_scan mw_644 dL_law_1065 rfl rfl ⟨Nat.le_of_ble_eq_true rfl, Nat.le_of_ble_eq_true rfl⟩ (Nat.le_of_ble_eq_true rfl) hb (kX4_scan hr)) (fun v212 w213 _ => ?_)
                                                    refine mg_icmp_eq (pc := 1068) hC 1096 dL_law_1068 (by decide) (fun _ => ?_) (fun _ => ?_)
                                                    · exact mg_sub (pc := 1096) [0, 1, 2, 3] (L' := [(0, .ref b), (1, .ref x1), (2, .ref x2), (3, .int x3)]) rfl (gL_law_b1096 hC hX  _ ih _ _ _ _ _ _ _)
                                                    · refine mg_iconst (pc := 1071) hC (0 : Int32) dL_law_1071 (by decide) ?_
                                                      exact mg_zretC (pc := 1072) hC (by decide) rfl dL_law_1072
                                                  · skip
                                                    refine mg_ite (cd := (v1 &&& (31 : Int32)) = (23 : Int32)) (fun hq => ?_) (fun h23 => ?_)
                                                    · rw [hq]
                                                      refine mg_tswC (pc := 32) hC 1073 dL_law_32 (by decide) (by decide) rfl (by decide) ?_
                                                      refine mg_aload_n (pc := 1073) hC 1 dL_law_1073 rfl ?_
                                                      refine mg_aload_n (pc := 1074) hC 0 dL_law_1074 rfl ?_
                                                      refine mg_iload_n (pc := 1075) hC 3 dL_law_1075 rfl ?_
                                                      refine mg_iconst (pc := 1076) hC (1 : Int32) dL_law_1076 (by decide) ?_
                                                      refine mg_iadd (pc := 1077) hC dL_law_1077 ?_
                                                      refine mg_sld (pc := 1078) hC hX dL_law_1078 (fun v214 _ => ?_)
                                                      refine mg_recv (ci := 3) (fun hb => ?_)
                                                      refine mg_cRI (pc := 1079) (fun r hr => mg_VR (rest := []) (av := [.int v214]) (ci := 3) hC wdX3_count mw_392 dL_law_1079 rfl rfl ⟨Nat.le_of_ble_eq_true rfl, Nat.le_of_ble_eq_true rfl⟩ (Nat.le_of_ble_eq_true rfl) hb (kX3_count hr)) (fun v215 _ => ?_)
                                                      refine mg_aload_n (pc := 1082) hC 2 dL_law_1082 rfl ?_
                                                      refine mg_aload_n (pc := 1083) hC 0 dL_law_1083 rfl ?_
                                                      refine mg_iload_n (pc := 1084) hC 3 dL_law_1084 rfl ?_
                                                      refine mg_iconst (pc := 1085) hC (1 : Int32) dL_law_1085 (by decide) ?_
                                                      refine mg_iadd (pc := 1086) hC dL_law_1086 ?_
                                                      refine mg_sld (pc := 1087) hC hX dL_law_1087 (fun v216 _ => ?_)
                                                      refine mg_recv (ci := 4) (fun hb => ?_)
                                                      refine mg_cRI (pc := 1088) (fun r hr => mg_VR (rest := [.int v215]) (av := [.int v216]) (ci := 4) hC wdX4_count mw_650 dL_law_1088 rfl rfl ⟨Nat.le_of_ble_eq_true rfl, Nat.le_of_ble_eq_true rfl⟩ (Nat.le_of_ble_eq_true rfl) hb (kX4_count hr)) (fun v217 _ => ?_)
                                                      refine mg_icmp_eq (pc := 1091) hC 1096 dL_law_1091 (by decide) (fun _ => ?_) (fun _ => ?_)
                                                      · exact mg_sub (pc := 1096) [0, 1, 2, 3] (L' := [(0, .ref b), (1, .ref x1), (2, .ref x2), (3, .int x3)]) rfl (gL_law_b1096 hC hX  _ ih _ _ _ _ _ _ _)
                                                      · refine mg_iconst (pc := 1094) hC (0 : Int32) dL_law_1094 (by decide) ?_
                                                        exact mg_zretC (pc := 1095) hC (by decide) rfl dL_law_1095
                                                    · skip
                                                      refine mg_tswD (pc := 32) hC 1096 dL_law_32 (mg_sw23 h0 h1 h2 h3 h4 h5 h6 h7 h8 h9 h10 h11 h12 h13 h14 h15 h16 h17 h18 h19 h20 h21 h22 h23) (by decide) ?_
                                                      exact mg_sub (pc := 1096) [0, 1, 2, 3] (L' := [(0, .ref b), (1, .ref x1), (2, .ref x2), (3, .int x3)]) rfl (gL_law_b1096 hC hX  _ ih _ _ _ _ _ _ _)
def fL_law (xs : Nat → Int32) (Ls : Nat) (w : mg_H) (sz : Nat) : Option (Int32 × mg_H × Nat × Nat) := mg_nw w sz 3 [.null, .null, .null, .int 0, .null] 5 fun w1 => mg_bA (fX3_init sz w1 (sz + 1)) fun _ w3 kc4 ks5 => mg_nw w3 (sz + 1 + kc4) 4 [.int 0, .null, .null, .int 0, .null, .null, .null, .null, .null, .null, .null] 11 fun w6 => mg_bA (fX4_init (sz + 1 + kc4) w6 (sz + 1 + kc4 + 1)) fun _ w8 kc9 ks10 => fL_law_b18 xs Ls mg_N sz (sz + 1 + kc4) (0 : Int32) w8 (sz + 1 + kc4 + 1 + kc9)
set_option maxHeartbeats 4000000 in
set_option maxRecDepth 100000 in
theorem gL_law (hC : mg_Cx E p s m args meth c cL_law 4 (some .boolean) RL) {b Ls : Nat} {xs : Nat → Int32} (hX : mg_X E b Ls xs s) (w : mg_H) (sz cells slots : Nat) : mg_G E p l e ({ frames := 10, cells := C, slots := S, locals := 384 } : Room) s m args below meth c 4 (mg_oA mg_vI) (fL_law xs Ls w sz) w sz cells slots 0 [(0, .ref b)] [] := by
  unfold fL_law
  refine mg_newO (pc := 0) (ci := 3) hC mi_3 rfl tyX3 tyX3_ok [.null, .null, .null, .int 0, .null] (fun j hj => by rcases (show j = 0 ∨ j = 1 ∨ j = 2 ∨ j = 3 ∨ j = 4 by omega) with rfl | rfl | rfl | rfl | rfl <;> rfl) mw_7 mw_8 mw_1 dL_law_0 ?_
  refine mg_dup (pc := 3) hC dL_law_3 rfl ?_
  refine mg_cAV (pc := 4) (fun r hr => mg_I (rest := [.ref sz]) (av := []) hC wdX3_init mw_10 mw_9 dL_law_4 rfl rfl ⟨Nat.le_of_ble_eq_true rfl, Nat.le_of_ble_eq_true rfl⟩ (Nat.le_of_ble_eq_true rfl) rfl (kX3_init hr)) (fun _ w3 kc4 ks5 _ => ?_)
  refine mg_astore_n (pc := 7) hC [(1, .ref sz), (0, .ref b)] dL_law_7 (by decide) rfl ?_
  refine mg_newO (pc := 8) (ci := 4) hC mi_4 rfl tyX4 tyX4_ok [.int 0, .null, .null, .int 0, .null, .null, .null, .null, .null, .null, .null] (fun j hj => by rcases (show j = 0 ∨ j = 1 ∨ j = 2 ∨ j = 3 ∨ j = 4 ∨ j = 5 ∨ j = 6 ∨ j = 7 ∨ j = 8 ∨ j = 9 ∨ j = 10 by omega) with rfl | rfl | rfl | rfl | rfl | rfl | rfl | rfl | rfl | rfl | rfl <;> rfl) mw_408 mw_409 mw_2 dL_law_8 ?_
  refine mg_dup (pc := 11) hC dL_law_11 rfl ?_
  refine mg_cAV (pc := 12) (fun r hr => mg_I (rest := [.ref (sz + 1 + kc4)]) (av := []) hC wdX4_init mw_411 mw_410 dL_law_12 rfl rfl ⟨Nat.le_of_ble_eq_true rfl, Nat.le_of_ble_eq_true rfl⟩ (Nat.le_of_ble_eq_true rfl) rfl (kX4_init hr)) (fun _ w8 kc9 ks10 _ => ?_)
  refine mg_astore_n (pc := 15) hC [(2, .ref (sz + 1 + kc4)), (1, .ref sz), (0, .ref b)] dL_law_15 (by decide) rfl ?_
  refine mg_iconst (pc := 16) hC (0 : Int32) dL_law_16 (by decide) ?_
  refine mg_istore_n (pc := 17) hC [(3, .int (0 : Int32)), (2, .ref (sz + 1 + kc4)), (1, .ref sz), (0, .ref b)] dL_law_17 (by decide) rfl ?_
  exact mg_sub (pc := 18) [3, 2, 1, 0] (L' := [(0, .ref b), (1, .ref sz), (2, .ref (sz + 1 + kc4)), (3, .int (0 : Int32))]) rfl (gL_law_b18 hC hX   _ _ _ _ _ _ _ _)
end MGL
