def F_L_law_1005 (r18 : Nat → Nat → Nat → Int32 → Mem → Option (Int32 × Mem)) (x0 : Nat) (x1 : Nat) (x2 : Nat) (x3 : Int32) (m : Mem) : Option (Int32 × Mem) :=
  (r18 x0 x1 x2 (x3 + 6) m)
def F_L_law_18 : Nat → Nat → Nat → Nat → Int32 → Mem → Option (Int32 × Mem)
  | 0 => fun _ _ _ _ _ => none
  | n + 1 => fun x0 x1 x2 x3 m =>
  (aLen m x0).bind fun v1 =>
  (if (v1 - (6 : Int32)) < x3 then
  (some ((1 : Int32), m))
  else
  (ldI m x0 x3).bind fun v3 =>
  (if (v3 &&& (31 : Int32)) = 0 then
  (ldI m x0 (x3 + (1 : Int32))).bind fun v5 =>
  (chkT m 6 x1).bind fun v7 =>
  (F_X6_write x1 v5 m).bind fun v6 =>
  (ldI v6.2 x0 (x3 + (1 : Int32))).bind fun v8 =>
  (chkT v6.2 7 x2).bind fun v10 =>
  (F_X7_write x2 v8 v6.2).bind fun v9 =>
  (if v6.1 = v9.1 then
  (F_L_law_1005 (F_L_law_18 n) x0 x1 x2 x3 v9.2)
  else
  (some ((0 : Int32), v9.2)))
  else
  (if (v3 &&& (31 : Int32)) = 1 then
  (chkT m 6 x1).bind fun v14 =>
  (F_X6_wipe x1 m).bind fun v13 =>
  (chkT v13.2 7 x2).bind fun v16 =>
  (F_X7_wipe x2 v13.2).bind fun v15 =>
  (if v13.1 = v15.1 then
  (F_L_law_1005 (F_L_law_18 n) x0 x1 x2 x3 v15.2)
  else
  (some ((0 : Int32), v15.2)))
  else
  (if (v3 &&& (31 : Int32)) = 2 then
  (chkT m 6 x1).bind fun v20 =>
  (F_X6_fault x1 m).bind fun v19 =>
  (chkT v19.2 7 x2).bind fun v22 =>
  (F_X7_fault x2 v19.2).bind fun v21 =>
  (if v19.1 = v21.1 then
  (F_L_law_1005 (F_L_law_18 n) x0 x1 x2 x3 v21.2)
  else
  (some ((0 : Int32), v21.2)))
  else
  (if (v3 &&& (31 : Int32)) = 3 then
  (chkT m 6 x1).bind fun v26 =>
  (F_X6_lay x1 m).bind fun v25 =>
  (chkT v25.2 7 x2).bind fun v28 =>
  (F_X7_lay x2 v25.2).bind fun v27 =>
  (if v25.1 = v27.1 then
  (F_L_law_1005 (F_L_law_18 n) x0 x1 x2 x3 v27.2)
  else
  (some ((0 : Int32), v27.2)))
  else
  (if (v3 &&& (31 : Int32)) = 4 then
  (ldI m x0 (x3 + (1 : Int32))).bind fun v31 =>
  (ldI m x0 (x3 + (2 : Int32))).bind fun v32 =>
  (chkT m 6 x1).bind fun v34 =>
  (F_X6_person x1 v31 v32 m).bind fun v33 =>
  (ldI m x0 (x3 + (1 : Int32))).bind fun v35 =>
  (ldI m x0 (x3 + (2 : Int32))).bind fun v36 =>
  (chkT m 7 x2).bind fun v38 =>
  (F_X7_person x2 v35 v36 m).bind fun v37 =>
  (if v33 = v37 then
  (F_L_law_1005 (F_L_law_18 n) x0 x1 x2 x3 m)
  else
  (some ((0 : Int32), m)))
  else
  (if (v3 &&& (31 : Int32)) = 5 then
  (ldI m x0 (x3 + (1 : Int32))).bind fun v41 =>
  (ldI m x0 (x3 + (2 : Int32))).bind fun v42 =>
  (chkT m 6 x1).bind fun v44 =>
  (F_X6_near x1 v41 v42 m).bind fun v43 =>
  (ldI m x0 (x3 + (1 : Int32))).bind fun v45 =>
  (ldI m x0 (x3 + (2 : Int32))).bind fun v46 =>
  (chkT m 7 x2).bind fun v48 =>
  (F_X7_near x2 v45 v46 m).bind fun v47 =>
  (if v43 = v47 then
  (F_L_law_1005 (F_L_law_18 n) x0 x1 x2 x3 m)
  else
  (some ((0 : Int32), m)))
  else
  (if (v3 &&& (31 : Int32)) = 6 then
  (ldI m x0 (x3 + (1 : Int32))).bind fun v51 =>
  (chkT m 6 x1).bind fun v53 =>
  (F_X6_about x1 v51 m).bind fun v52 =>
  (ldI m x0 (x3 + (1 : Int32))).bind fun v54 =>
  (chkT m 7 x2).bind fun v56 =>
  (F_X7_about x2 v54 m).bind fun v55 =>
  (if v52 = v55 then
  (F_L_law_1005 (F_L_law_18 n) x0 x1 x2 x3 m)
  else
  (some ((0 : Int32), m)))
  else
  (if (v3 &&& (31 : Int32)) = 7 then
  (ldI m x0 (x3 + (1 : Int32))).bind fun v59 =>
  (chkT m 6 x1).bind fun v61 =>
  (F_X6_pass x1 v59 m).bind fun v60 =>
  (ldI v60.2 x0 (x3 + (1 : Int32))).bind fun v62 =>
  (chkT v60.2 7 x2).bind fun v64 =>
  (F_X7_pass x2 v62 v60.2).bind fun v63 =>
  (if v60.1 = v63.1 then
  (F_L_law_1005 (F_L_law_18 n) x0 x1 x2 x3 v63.2)
  else
  (some ((0 : Int32), v63.2)))
  else
  (if (v3 &&& (31 : Int32)) = 8 then
  (ldI m x0 (x3 + (1 : Int32))).bind fun v67 =>
  (ldI m x0 (x3 + (2 : Int32))).bind fun v68 =>
  (ldI m x0 (x3 + (3 : Int32))).bind fun v69 =>
  (chkT m 6 x1).bind fun v71 =>
  (F_X6_weave x1 v67 v68 v69 m).bind fun v70 =>
  (ldI v70.2 x0 (x3 + (1 : Int32))).bind fun v72 =>
  (ldI v70.2 x0 (x3 + (2 : Int32))).bind fun v73 =>
  (ldI v70.2 x0 (x3 + (3 : Int32))).bind fun v74 =>
  (chkT v70.2 7 x2).bind fun v76 =>
  (F_X7_weave x2 v72 v73 v74 v70.2).bind fun v75 =>
  (if v70.1 = v75.1 then
  (F_L_law_1005 (F_L_law_18 n) x0 x1 x2 x3 v75.2)
  else
  (some ((0 : Int32), v75.2)))
  else
  (if (v3 &&& (31 : Int32)) = 9 then
  (ldI m x0 (x3 + (1 : Int32))).bind fun v79 =>
  (chkT m 6 x1).bind fun v81 =>
  (F_X6_off x1 v79 m).bind fun v80 =>
  (ldI v80.2 x0 (x3 + (1 : Int32))).bind fun v82 =>
  (chkT v80.2 7 x2).bind fun v84 =>
  (F_X7_off x2 v82 v80.2).bind fun v83 =>
  (if v80.1 = v83.1 then
  (F_L_law_1005 (F_L_law_18 n) x0 x1 x2 x3 v83.2)
  else
  (some ((0 : Int32), v83.2)))
  else
  (if (v3 &&& (31 : Int32)) = 10 then
  (ldI m x0 (x3 + (1 : Int32))).bind fun v87 =>
  (ldI m x0 (x3 + (2 : Int32))).bind fun v88 =>
  (chkT m 6 x1).bind fun v90 =>
  (F_X6_pace x1 v87 v88 m).bind fun v89 =>
  (ldI v89.2 x0 (x3 + (1 : Int32))).bind fun v91 =>
  (ldI v89.2 x0 (x3 + (2 : Int32))).bind fun v92 =>
  (chkT v89.2 7 x2).bind fun v94 =>
  (F_X7_pace x2 v91 v92 v89.2).bind fun v93 =>
  (if v89.1 = v93.1 then
  (F_L_law_1005 (F_L_law_18 n) x0 x1 x2 x3 v93.2)
  else
  (some ((0 : Int32), v93.2)))
  else
  (if (v3 &&& (31 : Int32)) = 11 then
  (chkT m 6 x1).bind fun v98 =>
  (F_X6_undo x1 m).bind fun v97 =>
  (chkT v97.2 7 x2).bind fun v100 =>
  (F_X7_undo x2 v97.2).bind fun v99 =>
  (if v97.1 = v99.1 then
  (F_L_law_1005 (F_L_law_18 n) x0 x1 x2 x3 v99.2)
  else
  (some ((0 : Int32), v99.2)))
  else
  (if (v3 &&& (31 : Int32)) = 12 then
  (ldI m x0 (x3 + (1 : Int32))).bind fun v103 =>
  (ldI m x0 (x3 + (2 : Int32))).bind fun v104 =>
  (chkT m 6 x1).bind fun v106 =>
  (F_X6_behind x1 v103 v104 m).bind fun v105 =>
  (ldI m x0 (x3 + (1 : Int32))).bind fun v107 =>
  (ldI m x0 (x3 + (2 : Int32))).bind fun v108 =>
  (chkT m 7 x2).bind fun v110 =>
  (F_X7_behind x2 v107 v108 m).bind fun v109 =>
  (if v105 = v109 then
  (F_L_law_1005 (F_L_law_18 n) x0 x1 x2 x3 m)
  else
  (some ((0 : Int32), m)))
  else
  (if (v3 &&& (31 : Int32)) = 13 then
  (ldI m x0 (x3 + (1 : Int32))).bind fun v113 =>
  (ldI m x0 (x3 + (2 : Int32))).bind fun v114 =>
  (chkT m 6 x1).bind fun v116 =>
  (F_X6_first x1 v113 v114 m).bind fun v115 =>
  (ldI v115.2 x0 (x3 + (1 : Int32))).bind fun v117 =>
  (ldI v115.2 x0 (x3 + (2 : Int32))).bind fun v118 =>
  (chkT v115.2 7 x2).bind fun v120 =>
  (F_X7_first x2 v117 v118 v115.2).bind fun v119 =>
  (if v115.1 = v119 then
  (F_L_law_1005 (F_L_law_18 n) x0 x1 x2 x3 v115.2)
  else
  (some ((0 : Int32), v115.2)))
  else
  (if (v3 &&& (31 : Int32)) = 14 then
  (ldI m x0 (x3 + (1 : Int32))).bind fun v123 =>
  (chkT m 6 x1).bind fun v125 =>
  (F_X6_all x1 v123 m).bind fun v124 =>
  (ldI v124.2 x0 (x3 + (1 : Int32))).bind fun v126 =>
  (chkT v124.2 7 x2).bind fun v128 =>
  (F_X7_all x2 v126 v124.2).bind fun v127 =>
  (if v124.1 = v127.1 then
  (F_L_law_1005 (F_L_law_18 n) x0 x1 x2 x3 v127.2)
  else
  (some ((0 : Int32), v127.2)))
  else
  (if (v3 &&& (31 : Int32)) = 15 then
  (ldI m x0 (x3 + (1 : Int32))).bind fun v131 =>
  (ldI m x0 (x3 + (2 : Int32))).bind fun v132 =>
  (ldI m x0 (x3 + (3 : Int32))).bind fun v133 =>
  (chkT m 6 x1).bind fun v135 =>
  (F_X6_paces x1 v131 v132 v133 m).bind fun v134 =>
  (ldI m x0 (x3 + (1 : Int32))).bind fun v136 =>
  (ldI m x0 (x3 + (2 : Int32))).bind fun v137 =>
  (ldI m x0 (x3 + (3 : Int32))).bind fun v138 =>
  (chkT m 7 x2).bind fun v140 =>
  (F_X7_paces x2 v136 v137 v138 m).bind fun v139 =>
  (if v134 = v139.1 then
  (F_L_law_1005 (F_L_law_18 n) x0 x1 x2 x3 v139.2)
  else
  (some ((0 : Int32), v139.2)))
  else
  (if (v3 &&& (31 : Int32)) = 16 then
  (ldI m x0 (x3 + (1 : Int32))).bind fun v143 =>
  (chkT m 6 x1).bind fun v145 =>
  (F_X6_shy x1 v143 m).bind fun v144 =>
  (ldI v144.2 x0 (x3 + (1 : Int32))).bind fun v146 =>
  (chkT v144.2 7 x2).bind fun v148 =>
  (F_X7_shy x2 v146 v144.2).bind fun v147 =>
  (if v144.1 = v147 then
  (F_L_law_1005 (F_L_law_18 n) x0 x1 x2 x3 v144.2)
  else
  (some ((0 : Int32), v144.2)))
  else
  (if (v3 &&& (31 : Int32)) = 17 then
  (ldI m x0 (x3 + (1 : Int32))).bind fun v151 =>
  (ldI m x0 (x3 + (2 : Int32))).bind fun v152 =>
  (chkT m 6 x1).bind fun v154 =>
  (F_X6_spread x1 v151 v152 m).bind fun v153 =>
  (ldI v153.2 x0 (x3 + (1 : Int32))).bind fun v155 =>
  (ldI v153.2 x0 (x3 + (2 : Int32))).bind fun v156 =>
  (chkT v153.2 7 x2).bind fun v158 =>
  (F_X7_spread x2 v155 v156 v153.2).bind fun v157 =>
  (if v153.1 = v157.1 then
  (F_L_law_1005 (F_L_law_18 n) x0 x1 x2 x3 v157.2)
  else
  (some ((0 : Int32), v157.2)))
  else
  (if (v3 &&& (31 : Int32)) = 18 then
  (ldI m x0 (x3 + (1 : Int32))).bind fun v161 =>
  (chkT m 6 x1).bind fun v163 =>
  (F_X6_dear x1 v161 m).bind fun v162 =>
  (ldI m x0 (x3 + (1 : Int32))).bind fun v164 =>
  (chkT m 7 x2).bind fun v166 =>
  (F_X7_dear x2 v164 m).bind fun v165 =>
  (if v162 = v165 then
  (F_L_law_1005 (F_L_law_18 n) x0 x1 x2 x3 m)
  else
  (some ((0 : Int32), m)))
  else
  (if (v3 &&& (31 : Int32)) = 19 then
  (ldI m x0 (x3 + (1 : Int32))).bind fun v169 =>
  (ldI m x0 (x3 + (2 : Int32))).bind fun v170 =>
  (ldI m x0 (x3 + (3 : Int32))).bind fun v171 =>
  (chkT m 6 x1).bind fun v173 =>
  (F_X6_seen x1 v169 v170 v171 m).bind fun v172 =>
  (ldI v172.2 x0 (x3 + (1 : Int32))).bind fun v174 =>
  (ldI v172.2 x0 (x3 + (2 : Int32))).bind fun v175 =>
  (ldI v172.2 x0 (x3 + (3 : Int32))).bind fun v176 =>
  (chkT v172.2 7 x2).bind fun v178 =>
  (F_X7_seen x2 v174 v175 v176 v172.2).bind fun v177 =>
  (if v172.1 = v177.1 then
  (F_L_law_1005 (F_L_law_18 n) x0 x1 x2 x3 v177.2)
  else
  (some ((0 : Int32), v177.2)))
  else
  (if (v3 &&& (31 : Int32)) = 20 then
  (ldI m x0 (x3 + (1 : Int32))).bind fun v181 =>
  (chkT m 6 x1).bind fun v183 =>
  (F_X6_kinds x1 v181 m).bind fun v182 =>
  (ldI m x0 (x3 + (1 : Int32))).bind fun v184 =>
  (chkT m 7 x2).bind fun v186 =>
  (F_X7_kinds x2 v184 m).bind fun v185 =>
  (if v182 = v185.1 then
  (F_L_law_1005 (F_L_law_18 n) x0 x1 x2 x3 v185.2)
  else
  (some ((0 : Int32), v185.2)))
  else
  (if (v3 &&& (31 : Int32)) = 21 then
  (ldI m x0 (x3 + (1 : Int32))).bind fun v189 =>
  (chkT m 6 x1).bind fun v191 =>
  (F_X6_speeds x1 v189 m).bind fun v190 =>
  (ldI m x0 (x3 + (1 : Int32))).bind fun v192 =>
  (chkT m 7 x2).bind fun v194 =>
  (F_X7_speeds x2 v192 m).bind fun v193 =>
  (if v190 = v193.1 then
  (F_L_law_1005 (F_L_law_18 n) x0 x1 x2 x3 v193.2)
  else
  (some ((0 : Int32), v193.2)))
  else
  (if (v3 &&& (31 : Int32)) = 22 then
  (ldI m x0 (x3 + (1 : Int32))).bind fun v197 =>
  (ldI m x0 (x3 + (2 : Int32))).bind fun v198 =>
  (chkT m 6 x1).bind fun v200 =>
  (F_X6_told x1 v197 v198 m).bind fun v199 =>
  (ldI v199.2 x0 (x3 + (1 : Int32))).bind fun v201 =>
  (ldI v199.2 x0 (x3 + (2 : Int32))).bind fun v202 =>
  (chkT v199.2 7 x2).bind fun v204 =>
  (F_X7_told x2 v201 v202 v199.2).bind fun v203 =>
  (if v199.1 = v203.1 then
  (F_L_law_1005 (F_L_law_18 n) x0 x1 x2 x3 v203.2)
  else
  (some ((0 : Int32), v203.2)))
  else
  (if (v3 &&& (31 : Int32)) = 23 then
  (ldI m x0 (x3 + (1 : Int32))).bind fun v207 =>
  (chkT m 6 x1).bind fun v209 =>
  (F_X6_rings x1 v207 m).bind fun v208 =>
  (ldI m x0 (x3 + (1 : Int32))).bind fun v210 =>
  (chkT m 7 x2).bind fun v212 =>
  (F_X7_rings x2 v210 m).bind fun v211 =>
  (if v208 = v211 then
  (F_L_law_1005 (F_L_law_18 n) x0 x1 x2 x3 m)
  else
  (some ((0 : Int32), m)))
  else
  (if (v3 &&& (31 : Int32)) = 24 then
  (ldI m x0 (x3 + (1 : Int32))).bind fun v215 =>
  (chkT m 6 x1).bind fun v217 =>
  (F_X6_look x1 v215 m).bind fun v216 =>
  (ldI v216.2 x0 (x3 + (1 : Int32))).bind fun v218 =>
  (chkT v216.2 7 x2).bind fun v220 =>
  (F_X7_look x2 v218 v216.2).bind fun v219 =>
  (if v216.1 = v219 then
  (F_L_law_1005 (F_L_law_18 n) x0 x1 x2 x3 v216.2)
  else
  (some ((0 : Int32), v216.2)))
  else
  (if (v3 &&& (31 : Int32)) = 25 then
  (chkT m 6 x1).bind fun v224 =>
  (F_X6_forget x1 m).bind fun v223 =>
  (chkT v223.2 7 x2).bind fun v226 =>
  (F_X7_forget x2 v223.2).bind fun v225 =>
  (if v223.1 = v225.1 then
  (F_L_law_1005 (F_L_law_18 n) x0 x1 x2 x3 v225.2)
  else
  (some ((0 : Int32), v225.2)))
  else
  (if (v3 &&& (31 : Int32)) = 26 then
  (ldI m x0 (x3 + (1 : Int32))).bind fun v229 =>
  (ldI m x0 (x3 + (2 : Int32))).bind fun v230 =>
  (ldI m x0 (x3 + (3 : Int32))).bind fun v231 =>
  (ldI m x0 (x3 + (4 : Int32))).bind fun v232 =>
  (ldI m x0 (x3 + (5 : Int32))).bind fun v233 =>
  (chkT m 6 x1).bind fun v235 =>
  (F_X6_likely x1 v229 v230 v231 v232 v233 m).bind fun v234 =>
  (ldI v234.2 x0 (x3 + (1 : Int32))).bind fun v236 =>
  (ldI v234.2 x0 (x3 + (2 : Int32))).bind fun v237 =>
  (ldI v234.2 x0 (x3 + (3 : Int32))).bind fun v238 =>
  (ldI v234.2 x0 (x3 + (4 : Int32))).bind fun v239 =>
  (ldI v234.2 x0 (x3 + (5 : Int32))).bind fun v240 =>
  (chkT v234.2 7 x2).bind fun v242 =>
  (F_X7_likely x2 v236 v237 v238 v239 v240 v234.2).bind fun v241 =>
  (if v234.1 = v241 then
  (F_L_law_1005 (F_L_law_18 n) x0 x1 x2 x3 v234.2)
  else
  (some ((0 : Int32), v234.2)))
  else
  (if (v3 &&& (31 : Int32)) = 27 then
  (ldI m x0 (x3 + (1 : Int32))).bind fun v245 =>
  (ldI m x0 (x3 + (2 : Int32))).bind fun v246 =>
  (ldI m x0 (x3 + (3 : Int32))).bind fun v247 =>
  (chkT m 6 x1).bind fun v249 =>
  (F_X6_season x1 v245 v246 v247 m).bind fun v248 =>
  (ldI v248.2 x0 (x3 + (1 : Int32))).bind fun v250 =>
  (ldI v248.2 x0 (x3 + (2 : Int32))).bind fun v251 =>
  (ldI v248.2 x0 (x3 + (3 : Int32))).bind fun v252 =>
  (chkT v248.2 7 x2).bind fun v254 =>
  (F_X7_season x2 v250 v251 v252 v248.2).bind fun v253 =>
  (if v248.1 = v253.1 then
  (F_L_law_1005 (F_L_law_18 n) x0 x1 x2 x3 v253.2)
  else
  (some ((0 : Int32), v253.2)))
  else
  (if (v3 &&& (31 : Int32)) = 28 then
  (chkT m 6 x1).bind fun v258 =>
  (F_X6_keep x1 m).bind fun v257 =>
  (chkT v257.2 7 x2).bind fun v260 =>
  (F_X7_keep x2 v257.2).bind fun v259 =>
  (if v257.1 = v259.1 then
  (F_L_law_1005 (F_L_law_18 n) x0 x1 x2 x3 v259.2)
  else
  (some ((0 : Int32), v259.2)))
  else
  (if (v3 &&& (31 : Int32)) = 29 then
  (chkT m 6 x1).bind fun v264 =>
  (F_X6_back x1 m).bind fun v263 =>
  (chkT v263.2 7 x2).bind fun v266 =>
  (F_X7_back x2 v263.2).bind fun v265 =>
  (if v263.1 = v265.1 then
  (F_L_law_1005 (F_L_law_18 n) x0 x1 x2 x3 v265.2)
  else
  (some ((0 : Int32), v265.2)))
  else
  (if (v3 &&& (31 : Int32)) = 30 then
  (ldI m x0 (x3 + (1 : Int32))).bind fun v269 =>
  (chkT m 6 x1).bind fun v271 =>
  (F_X6_count x1 v269 m).bind fun v270 =>
  (ldI m x0 (x3 + (1 : Int32))).bind fun v272 =>
  (chkT m 7 x2).bind fun v274 =>
  (F_X7_count x2 v272 m).bind fun v273 =>
  (if v270 = v273 then
  (F_L_law_1005 (F_L_law_18 n) x0 x1 x2 x3 m)
  else
  (some ((0 : Int32), m)))
  else
  (F_L_law_1005 (F_L_law_18 n) x0 x1 x2 x3 m)))))))))))))))))))))))))))))))))
def F_L_law (x0 : Nat) (m : Mem) : Option (Int32 × Mem) :=
  (chkT (mNew m 6 10) 6 (mN m)).bind fun v277 =>
  (F_X6_init (mN m) (mNew m 6 10)).bind fun v276 =>
  (chkT (mNew v276 7 30) 7 (mN v276)).bind fun v279 =>
  (F_X7_init (mN v276) (mNew v276 7 30)).bind fun v278 =>
  (F_L_law_18 FU x0 (mN m) (mN v276) (0 : Int32) v278)
theorem dL_law_0 : decode (mC Y_L_law) 0 = .ok (.new 7, 3) := by decide +kernel
theorem dL_law_3 : decode (mC Y_L_law) 3 = .ok (.dup, 1) := by decide +kernel
theorem dL_law_4 : decode (mC Y_L_law) 4 = .ok (.invokespecial 9, 3) := by decide +kernel
theorem dL_law_7 : decode (mC Y_L_law) 7 = .ok (.astore_n 1, 1) := by decide +kernel
theorem dL_law_8 : decode (mC Y_L_law) 8 = .ok (.new 10, 3) := by decide +kernel
theorem dL_law_11 : decode (mC Y_L_law) 11 = .ok (.dup, 1) := by decide +kernel
theorem dL_law_12 : decode (mC Y_L_law) 12 = .ok (.invokespecial 12, 3) := by decide +kernel
theorem dL_law_15 : decode (mC Y_L_law) 15 = .ok (.astore_n 2, 1) := by decide +kernel
theorem dL_law_16 : decode (mC Y_L_law) 16 = .ok (.iconst 0, 1) := by decide +kernel
theorem dL_law_17 : decode (mC Y_L_law) 17 = .ok (.istore_n 3, 1) := by decide +kernel
theorem dL_law_18 : decode (mC Y_L_law) 18 = .ok (.iload_n 3, 1) := by decide +kernel
theorem dL_law_19 : decode (mC Y_L_law) 19 = .ok (.aload_n 0, 1) := by decide +kernel
theorem dL_law_20 : decode (mC Y_L_law) 20 = .ok (.arraylength, 1) := by decide +kernel
theorem dL_law_21 : decode (mC Y_L_law) 21 = .ok (.bipush 6, 2) := by decide +kernel
theorem dL_law_23 : decode (mC Y_L_law) 23 = .ok (.isub, 1) := by decide +kernel
theorem dL_law_24 : decode (mC Y_L_law) 24 = .ok (.if_icmp .gt 987, 3) := by decide +kernel
theorem dL_law_27 : decode (mC Y_L_law) 27 = .ok (.aload_n 0, 1) := by decide +kernel
theorem dL_law_28 : decode (mC Y_L_law) 28 = .ok (.iload_n 3, 1) := by decide +kernel
theorem dL_law_29 : decode (mC Y_L_law) 29 = .ok (.iaload, 1) := by decide +kernel
theorem dL_law_30 : decode (mC Y_L_law) 30 = .ok (.bipush 31, 2) := by decide +kernel
theorem dL_law_32 : decode (mC Y_L_law) 32 = .ok (.iand, 1) := by decide +kernel
theorem dL_law_33 : decode (mC Y_L_law) 33 = .ok (.tableswitch 972 0 30 #[139, 162, 175, 188, 201, 234, 267, 290, 313, 356, 379, 412, 425, 458, 491, 514, 557, 580, 613, 636, 679, 702, 725, 758, 781, 804, 817, 880, 923, 936, 949], 139) := by decide +kernel
theorem dL_law_172 : decode (mC Y_L_law) 172 = .ok (.aload_n 1, 1) := by decide +kernel
theorem dL_law_173 : decode (mC Y_L_law) 173 = .ok (.aload_n 0, 1) := by decide +kernel
theorem dL_law_174 : decode (mC Y_L_law) 174 = .ok (.iload_n 3, 1) := by decide +kernel
theorem dL_law_175 : decode (mC Y_L_law) 175 = .ok (.iconst 1, 1) := by decide +kernel
theorem dL_law_176 : decode (mC Y_L_law) 176 = .ok (.iadd, 1) := by decide +kernel
theorem dL_law_177 : decode (mC Y_L_law) 177 = .ok (.iaload, 1) := by decide +kernel
theorem dL_law_178 : decode (mC Y_L_law) 178 = .ok (.invokevirtual 13, 3) := by decide +kernel
theorem dL_law_181 : decode (mC Y_L_law) 181 = .ok (.aload_n 2, 1) := by decide +kernel
theorem dL_law_182 : decode (mC Y_L_law) 182 = .ok (.aload_n 0, 1) := by decide +kernel
theorem dL_law_183 : decode (mC Y_L_law) 183 = .ok (.iload_n 3, 1) := by decide +kernel
theorem dL_law_184 : decode (mC Y_L_law) 184 = .ok (.iconst 1, 1) := by decide +kernel
theorem dL_law_185 : decode (mC Y_L_law) 185 = .ok (.iadd, 1) := by decide +kernel
theorem dL_law_186 : decode (mC Y_L_law) 186 = .ok (.iaload, 1) := by decide +kernel
theorem dL_law_187 : decode (mC Y_L_law) 187 = .ok (.invokevirtual 17, 3) := by decide +kernel
theorem dL_law_190 : decode (mC Y_L_law) 190 = .ok (.if_icmp .eq 815, 3) := by decide +kernel
theorem dL_law_193 : decode (mC Y_L_law) 193 = .ok (.iconst 0, 1) := by decide +kernel
theorem dL_law_194 : decode (mC Y_L_law) 194 = .ok (.ireturn, 1) := by decide +kernel
theorem dL_law_195 : decode (mC Y_L_law) 195 = .ok (.aload_n 1, 1) := by decide +kernel
theorem dL_law_196 : decode (mC Y_L_law) 196 = .ok (.invokevirtual 18, 3) := by decide +kernel
theorem dL_law_199 : decode (mC Y_L_law) 199 = .ok (.aload_n 2, 1) := by decide +kernel
theorem dL_law_200 : decode (mC Y_L_law) 200 = .ok (.invokevirtual 22, 3) := by decide +kernel
theorem dL_law_203 : decode (mC Y_L_law) 203 = .ok (.if_icmp .eq 802, 3) := by decide +kernel
theorem dL_law_206 : decode (mC Y_L_law) 206 = .ok (.iconst 0, 1) := by decide +kernel
theorem dL_law_207 : decode (mC Y_L_law) 207 = .ok (.ireturn, 1) := by decide +kernel
theorem dL_law_208 : decode (mC Y_L_law) 208 = .ok (.aload_n 1, 1) := by decide +kernel
theorem dL_law_209 : decode (mC Y_L_law) 209 = .ok (.invokevirtual 23, 3) := by decide +kernel
theorem dL_law_212 : decode (mC Y_L_law) 212 = .ok (.aload_n 2, 1) := by decide +kernel
theorem dL_law_213 : decode (mC Y_L_law) 213 = .ok (.invokevirtual 26, 3) := by decide +kernel
theorem dL_law_216 : decode (mC Y_L_law) 216 = .ok (.if_icmp .eq 789, 3) := by decide +kernel
theorem dL_law_219 : decode (mC Y_L_law) 219 = .ok (.iconst 0, 1) := by decide +kernel
theorem dL_law_220 : decode (mC Y_L_law) 220 = .ok (.ireturn, 1) := by decide +kernel
theorem dL_law_221 : decode (mC Y_L_law) 221 = .ok (.aload_n 1, 1) := by decide +kernel
theorem dL_law_222 : decode (mC Y_L_law) 222 = .ok (.invokevirtual 27, 3) := by decide +kernel
theorem dL_law_225 : decode (mC Y_L_law) 225 = .ok (.aload_n 2, 1) := by decide +kernel
theorem dL_law_226 : decode (mC Y_L_law) 226 = .ok (.invokevirtual 30, 3) := by decide +kernel
theorem dL_law_229 : decode (mC Y_L_law) 229 = .ok (.if_icmp .eq 776, 3) := by decide +kernel
theorem dL_law_232 : decode (mC Y_L_law) 232 = .ok (.iconst 0, 1) := by decide +kernel
theorem dL_law_233 : decode (mC Y_L_law) 233 = .ok (.ireturn, 1) := by decide +kernel
theorem dL_law_234 : decode (mC Y_L_law) 234 = .ok (.aload_n 1, 1) := by decide +kernel
theorem dL_law_235 : decode (mC Y_L_law) 235 = .ok (.aload_n 0, 1) := by decide +kernel
theorem dL_law_236 : decode (mC Y_L_law) 236 = .ok (.iload_n 3, 1) := by decide +kernel
theorem dL_law_237 : decode (mC Y_L_law) 237 = .ok (.iconst 1, 1) := by decide +kernel
theorem dL_law_238 : decode (mC Y_L_law) 238 = .ok (.iadd, 1) := by decide +kernel
theorem dL_law_239 : decode (mC Y_L_law) 239 = .ok (.iaload, 1) := by decide +kernel
theorem dL_law_240 : decode (mC Y_L_law) 240 = .ok (.aload_n 0, 1) := by decide +kernel
theorem dL_law_241 : decode (mC Y_L_law) 241 = .ok (.iload_n 3, 1) := by decide +kernel
theorem dL_law_242 : decode (mC Y_L_law) 242 = .ok (.iconst 2, 1) := by decide +kernel
theorem dL_law_243 : decode (mC Y_L_law) 243 = .ok (.iadd, 1) := by decide +kernel
theorem dL_law_244 : decode (mC Y_L_law) 244 = .ok (.iaload, 1) := by decide +kernel
theorem dL_law_245 : decode (mC Y_L_law) 245 = .ok (.invokevirtual 31, 3) := by decide +kernel
theorem dL_law_248 : decode (mC Y_L_law) 248 = .ok (.aload_n 2, 1) := by decide +kernel
theorem dL_law_249 : decode (mC Y_L_law) 249 = .ok (.aload_n 0, 1) := by decide +kernel
theorem dL_law_250 : decode (mC Y_L_law) 250 = .ok (.iload_n 3, 1) := by decide +kernel
theorem dL_law_251 : decode (mC Y_L_law) 251 = .ok (.iconst 1, 1) := by decide +kernel
theorem dL_law_252 : decode (mC Y_L_law) 252 = .ok (.iadd, 1) := by decide +kernel
theorem dL_law_253 : decode (mC Y_L_law) 253 = .ok (.iaload, 1) := by decide +kernel
theorem dL_law_254 : decode (mC Y_L_law) 254 = .ok (.aload_n 0, 1) := by decide +kernel
theorem dL_law_255 : decode (mC Y_L_law) 255 = .ok (.iload_n 3, 1) := by decide +kernel
theorem dL_law_256 : decode (mC Y_L_law) 256 = .ok (.iconst 2, 1) := by decide +kernel
theorem dL_law_257 : decode (mC Y_L_law) 257 = .ok (.iadd, 1) := by decide +kernel
theorem dL_law_258 : decode (mC Y_L_law) 258 = .ok (.iaload, 1) := by decide +kernel
theorem dL_law_259 : decode (mC Y_L_law) 259 = .ok (.invokevirtual 35, 3) := by decide +kernel
theorem dL_law_262 : decode (mC Y_L_law) 262 = .ok (.if_icmp .eq 743, 3) := by decide +kernel
theorem dL_law_265 : decode (mC Y_L_law) 265 = .ok (.iconst 0, 1) := by decide +kernel
theorem dL_law_266 : decode (mC Y_L_law) 266 = .ok (.ireturn, 1) := by decide +kernel
theorem dL_law_267 : decode (mC Y_L_law) 267 = .ok (.aload_n 1, 1) := by decide +kernel
theorem dL_law_268 : decode (mC Y_L_law) 268 = .ok (.aload_n 0, 1) := by decide +kernel
theorem dL_law_269 : decode (mC Y_L_law) 269 = .ok (.iload_n 3, 1) := by decide +kernel
theorem dL_law_270 : decode (mC Y_L_law) 270 = .ok (.iconst 1, 1) := by decide +kernel
theorem dL_law_271 : decode (mC Y_L_law) 271 = .ok (.iadd, 1) := by decide +kernel
theorem dL_law_272 : decode (mC Y_L_law) 272 = .ok (.iaload, 1) := by decide +kernel
theorem dL_law_273 : decode (mC Y_L_law) 273 = .ok (.aload_n 0, 1) := by decide +kernel
theorem dL_law_274 : decode (mC Y_L_law) 274 = .ok (.iload_n 3, 1) := by decide +kernel
theorem dL_law_275 : decode (mC Y_L_law) 275 = .ok (.iconst 2, 1) := by decide +kernel
theorem dL_law_276 : decode (mC Y_L_law) 276 = .ok (.iadd, 1) := by decide +kernel
theorem dL_law_277 : decode (mC Y_L_law) 277 = .ok (.iaload, 1) := by decide +kernel
theorem dL_law_278 : decode (mC Y_L_law) 278 = .ok (.invokevirtual 36, 3) := by decide +kernel
theorem dL_law_281 : decode (mC Y_L_law) 281 = .ok (.aload_n 2, 1) := by decide +kernel
theorem dL_law_282 : decode (mC Y_L_law) 282 = .ok (.aload_n 0, 1) := by decide +kernel
theorem dL_law_283 : decode (mC Y_L_law) 283 = .ok (.iload_n 3, 1) := by decide +kernel
theorem dL_law_284 : decode (mC Y_L_law) 284 = .ok (.iconst 1, 1) := by decide +kernel
theorem dL_law_285 : decode (mC Y_L_law) 285 = .ok (.iadd, 1) := by decide +kernel
theorem dL_law_286 : decode (mC Y_L_law) 286 = .ok (.iaload, 1) := by decide +kernel
theorem dL_law_287 : decode (mC Y_L_law) 287 = .ok (.aload_n 0, 1) := by decide +kernel
theorem dL_law_288 : decode (mC Y_L_law) 288 = .ok (.iload_n 3, 1) := by decide +kernel
theorem dL_law_289 : decode (mC Y_L_law) 289 = .ok (.iconst 2, 1) := by decide +kernel
theorem dL_law_290 : decode (mC Y_L_law) 290 = .ok (.iadd, 1) := by decide +kernel
theorem dL_law_291 : decode (mC Y_L_law) 291 = .ok (.iaload, 1) := by decide +kernel
theorem dL_law_292 : decode (mC Y_L_law) 292 = .ok (.invokevirtual 39, 3) := by decide +kernel
theorem dL_law_295 : decode (mC Y_L_law) 295 = .ok (.if_icmp .eq 710, 3) := by decide +kernel
theorem dL_law_298 : decode (mC Y_L_law) 298 = .ok (.iconst 0, 1) := by decide +kernel
theorem dL_law_299 : decode (mC Y_L_law) 299 = .ok (.ireturn, 1) := by decide +kernel
theorem dL_law_300 : decode (mC Y_L_law) 300 = .ok (.aload_n 1, 1) := by decide +kernel
theorem dL_law_301 : decode (mC Y_L_law) 301 = .ok (.aload_n 0, 1) := by decide +kernel
theorem dL_law_302 : decode (mC Y_L_law) 302 = .ok (.iload_n 3, 1) := by decide +kernel
theorem dL_law_303 : decode (mC Y_L_law) 303 = .ok (.iconst 1, 1) := by decide +kernel
theorem dL_law_304 : decode (mC Y_L_law) 304 = .ok (.iadd, 1) := by decide +kernel
theorem dL_law_305 : decode (mC Y_L_law) 305 = .ok (.iaload, 1) := by decide +kernel
theorem dL_law_306 : decode (mC Y_L_law) 306 = .ok (.invokevirtual 40, 3) := by decide +kernel
theorem dL_law_309 : decode (mC Y_L_law) 309 = .ok (.aload_n 2, 1) := by decide +kernel
theorem dL_law_310 : decode (mC Y_L_law) 310 = .ok (.aload_n 0, 1) := by decide +kernel
theorem dL_law_311 : decode (mC Y_L_law) 311 = .ok (.iload_n 3, 1) := by decide +kernel
theorem dL_law_312 : decode (mC Y_L_law) 312 = .ok (.iconst 1, 1) := by decide +kernel
theorem dL_law_313 : decode (mC Y_L_law) 313 = .ok (.iadd, 1) := by decide +kernel
theorem dL_law_314 : decode (mC Y_L_law) 314 = .ok (.iaload, 1) := by decide +kernel
theorem dL_law_315 : decode (mC Y_L_law) 315 = .ok (.invokevirtual 43, 3) := by decide +kernel
theorem dL_law_318 : decode (mC Y_L_law) 318 = .ok (.if_icmp .eq 687, 3) := by decide +kernel
theorem dL_law_321 : decode (mC Y_L_law) 321 = .ok (.iconst 0, 1) := by decide +kernel
theorem dL_law_322 : decode (mC Y_L_law) 322 = .ok (.ireturn, 1) := by decide +kernel
theorem dL_law_323 : decode (mC Y_L_law) 323 = .ok (.aload_n 1, 1) := by decide +kernel
theorem dL_law_324 : decode (mC Y_L_law) 324 = .ok (.aload_n 0, 1) := by decide +kernel
theorem dL_law_325 : decode (mC Y_L_law) 325 = .ok (.iload_n 3, 1) := by decide +kernel
theorem dL_law_326 : decode (mC Y_L_law) 326 = .ok (.iconst 1, 1) := by decide +kernel
theorem dL_law_327 : decode (mC Y_L_law) 327 = .ok (.iadd, 1) := by decide +kernel
theorem dL_law_328 : decode (mC Y_L_law) 328 = .ok (.iaload, 1) := by decide +kernel
theorem dL_law_329 : decode (mC Y_L_law) 329 = .ok (.invokevirtual 44, 3) := by decide +kernel
theorem dL_law_332 : decode (mC Y_L_law) 332 = .ok (.aload_n 2, 1) := by decide +kernel
theorem dL_law_333 : decode (mC Y_L_law) 333 = .ok (.aload_n 0, 1) := by decide +kernel
theorem dL_law_334 : decode (mC Y_L_law) 334 = .ok (.iload_n 3, 1) := by decide +kernel
theorem dL_law_335 : decode (mC Y_L_law) 335 = .ok (.iconst 1, 1) := by decide +kernel
theorem dL_law_336 : decode (mC Y_L_law) 336 = .ok (.iadd, 1) := by decide +kernel
theorem dL_law_337 : decode (mC Y_L_law) 337 = .ok (.iaload, 1) := by decide +kernel
theorem dL_law_338 : decode (mC Y_L_law) 338 = .ok (.invokevirtual 47, 3) := by decide +kernel
theorem dL_law_341 : decode (mC Y_L_law) 341 = .ok (.if_icmp .eq 664, 3) := by decide +kernel
theorem dL_law_344 : decode (mC Y_L_law) 344 = .ok (.iconst 0, 1) := by decide +kernel
theorem dL_law_345 : decode (mC Y_L_law) 345 = .ok (.ireturn, 1) := by decide +kernel
theorem dL_law_346 : decode (mC Y_L_law) 346 = .ok (.aload_n 1, 1) := by decide +kernel
theorem dL_law_347 : decode (mC Y_L_law) 347 = .ok (.aload_n 0, 1) := by decide +kernel
theorem dL_law_348 : decode (mC Y_L_law) 348 = .ok (.iload_n 3, 1) := by decide +kernel
theorem dL_law_349 : decode (mC Y_L_law) 349 = .ok (.iconst 1, 1) := by decide +kernel
theorem dL_law_350 : decode (mC Y_L_law) 350 = .ok (.iadd, 1) := by decide +kernel
theorem dL_law_351 : decode (mC Y_L_law) 351 = .ok (.iaload, 1) := by decide +kernel
theorem dL_law_352 : decode (mC Y_L_law) 352 = .ok (.aload_n 0, 1) := by decide +kernel
theorem dL_law_353 : decode (mC Y_L_law) 353 = .ok (.iload_n 3, 1) := by decide +kernel
theorem dL_law_354 : decode (mC Y_L_law) 354 = .ok (.iconst 2, 1) := by decide +kernel
theorem dL_law_355 : decode (mC Y_L_law) 355 = .ok (.iadd, 1) := by decide +kernel
theorem dL_law_356 : decode (mC Y_L_law) 356 = .ok (.iaload, 1) := by decide +kernel
theorem dL_law_357 : decode (mC Y_L_law) 357 = .ok (.aload_n 0, 1) := by decide +kernel
theorem dL_law_358 : decode (mC Y_L_law) 358 = .ok (.iload_n 3, 1) := by decide +kernel
theorem dL_law_359 : decode (mC Y_L_law) 359 = .ok (.iconst 3, 1) := by decide +kernel
theorem dL_law_360 : decode (mC Y_L_law) 360 = .ok (.iadd, 1) := by decide +kernel
theorem dL_law_361 : decode (mC Y_L_law) 361 = .ok (.iaload, 1) := by decide +kernel
theorem dL_law_362 : decode (mC Y_L_law) 362 = .ok (.invokevirtual 48, 3) := by decide +kernel
theorem dL_law_365 : decode (mC Y_L_law) 365 = .ok (.aload_n 2, 1) := by decide +kernel
theorem dL_law_366 : decode (mC Y_L_law) 366 = .ok (.aload_n 0, 1) := by decide +kernel
theorem dL_law_367 : decode (mC Y_L_law) 367 = .ok (.iload_n 3, 1) := by decide +kernel
theorem dL_law_368 : decode (mC Y_L_law) 368 = .ok (.iconst 1, 1) := by decide +kernel
theorem dL_law_369 : decode (mC Y_L_law) 369 = .ok (.iadd, 1) := by decide +kernel
theorem dL_law_370 : decode (mC Y_L_law) 370 = .ok (.iaload, 1) := by decide +kernel
theorem dL_law_371 : decode (mC Y_L_law) 371 = .ok (.aload_n 0, 1) := by decide +kernel
theorem dL_law_372 : decode (mC Y_L_law) 372 = .ok (.iload_n 3, 1) := by decide +kernel
theorem dL_law_373 : decode (mC Y_L_law) 373 = .ok (.iconst 2, 1) := by decide +kernel
theorem dL_law_374 : decode (mC Y_L_law) 374 = .ok (.iadd, 1) := by decide +kernel
theorem dL_law_375 : decode (mC Y_L_law) 375 = .ok (.iaload, 1) := by decide +kernel
theorem dL_law_376 : decode (mC Y_L_law) 376 = .ok (.aload_n 0, 1) := by decide +kernel
theorem dL_law_377 : decode (mC Y_L_law) 377 = .ok (.iload_n 3, 1) := by decide +kernel
theorem dL_law_378 : decode (mC Y_L_law) 378 = .ok (.iconst 3, 1) := by decide +kernel
theorem dL_law_379 : decode (mC Y_L_law) 379 = .ok (.iadd, 1) := by decide +kernel
theorem dL_law_380 : decode (mC Y_L_law) 380 = .ok (.iaload, 1) := by decide +kernel
theorem dL_law_381 : decode (mC Y_L_law) 381 = .ok (.invokevirtual 52, 3) := by decide +kernel
theorem dL_law_384 : decode (mC Y_L_law) 384 = .ok (.if_icmp .eq 621, 3) := by decide +kernel
theorem dL_law_387 : decode (mC Y_L_law) 387 = .ok (.iconst 0, 1) := by decide +kernel
theorem dL_law_388 : decode (mC Y_L_law) 388 = .ok (.ireturn, 1) := by decide +kernel
theorem dL_law_389 : decode (mC Y_L_law) 389 = .ok (.aload_n 1, 1) := by decide +kernel
theorem dL_law_390 : decode (mC Y_L_law) 390 = .ok (.aload_n 0, 1) := by decide +kernel
theorem dL_law_391 : decode (mC Y_L_law) 391 = .ok (.iload_n 3, 1) := by decide +kernel
theorem dL_law_392 : decode (mC Y_L_law) 392 = .ok (.iconst 1, 1) := by decide +kernel
theorem dL_law_393 : decode (mC Y_L_law) 393 = .ok (.iadd, 1) := by decide +kernel
theorem dL_law_394 : decode (mC Y_L_law) 394 = .ok (.iaload, 1) := by decide +kernel
theorem dL_law_395 : decode (mC Y_L_law) 395 = .ok (.invokevirtual 53, 3) := by decide +kernel
theorem dL_law_398 : decode (mC Y_L_law) 398 = .ok (.aload_n 2, 1) := by decide +kernel
theorem dL_law_399 : decode (mC Y_L_law) 399 = .ok (.aload_n 0, 1) := by decide +kernel
theorem dL_law_400 : decode (mC Y_L_law) 400 = .ok (.iload_n 3, 1) := by decide +kernel
theorem dL_law_401 : decode (mC Y_L_law) 401 = .ok (.iconst 1, 1) := by decide +kernel
theorem dL_law_402 : decode (mC Y_L_law) 402 = .ok (.iadd, 1) := by decide +kernel
theorem dL_law_403 : decode (mC Y_L_law) 403 = .ok (.iaload, 1) := by decide +kernel
theorem dL_law_404 : decode (mC Y_L_law) 404 = .ok (.invokevirtual 56, 3) := by decide +kernel
theorem dL_law_407 : decode (mC Y_L_law) 407 = .ok (.if_icmp .eq 598, 3) := by decide +kernel
theorem dL_law_410 : decode (mC Y_L_law) 410 = .ok (.iconst 0, 1) := by decide +kernel
theorem dL_law_411 : decode (mC Y_L_law) 411 = .ok (.ireturn, 1) := by decide +kernel
theorem dL_law_412 : decode (mC Y_L_law) 412 = .ok (.aload_n 1, 1) := by decide +kernel
theorem dL_law_413 : decode (mC Y_L_law) 413 = .ok (.aload_n 0, 1) := by decide +kernel
theorem dL_law_414 : decode (mC Y_L_law) 414 = .ok (.iload_n 3, 1) := by decide +kernel
theorem dL_law_415 : decode (mC Y_L_law) 415 = .ok (.iconst 1, 1) := by decide +kernel
theorem dL_law_416 : decode (mC Y_L_law) 416 = .ok (.iadd, 1) := by decide +kernel
theorem dL_law_417 : decode (mC Y_L_law) 417 = .ok (.iaload, 1) := by decide +kernel
theorem dL_law_418 : decode (mC Y_L_law) 418 = .ok (.aload_n 0, 1) := by decide +kernel
theorem dL_law_419 : decode (mC Y_L_law) 419 = .ok (.iload_n 3, 1) := by decide +kernel
theorem dL_law_420 : decode (mC Y_L_law) 420 = .ok (.iconst 2, 1) := by decide +kernel
theorem dL_law_421 : decode (mC Y_L_law) 421 = .ok (.iadd, 1) := by decide +kernel
theorem dL_law_422 : decode (mC Y_L_law) 422 = .ok (.iaload, 1) := by decide +kernel
theorem dL_law_423 : decode (mC Y_L_law) 423 = .ok (.invokevirtual 57, 3) := by decide +kernel
theorem dL_law_426 : decode (mC Y_L_law) 426 = .ok (.aload_n 2, 1) := by decide +kernel
theorem dL_law_427 : decode (mC Y_L_law) 427 = .ok (.aload_n 0, 1) := by decide +kernel
theorem dL_law_428 : decode (mC Y_L_law) 428 = .ok (.iload_n 3, 1) := by decide +kernel
theorem dL_law_429 : decode (mC Y_L_law) 429 = .ok (.iconst 1, 1) := by decide +kernel
theorem dL_law_430 : decode (mC Y_L_law) 430 = .ok (.iadd, 1) := by decide +kernel
theorem dL_law_431 : decode (mC Y_L_law) 431 = .ok (.iaload, 1) := by decide +kernel
theorem dL_law_432 : decode (mC Y_L_law) 432 = .ok (.aload_n 0, 1) := by decide +kernel
theorem dL_law_433 : decode (mC Y_L_law) 433 = .ok (.iload_n 3, 1) := by decide +kernel
theorem dL_law_434 : decode (mC Y_L_law) 434 = .ok (.iconst 2, 1) := by decide +kernel
theorem dL_law_435 : decode (mC Y_L_law) 435 = .ok (.iadd, 1) := by decide +kernel
theorem dL_law_436 : decode (mC Y_L_law) 436 = .ok (.iaload, 1) := by decide +kernel
theorem dL_law_437 : decode (mC Y_L_law) 437 = .ok (.invokevirtual 60, 3) := by decide +kernel
theorem dL_law_440 : decode (mC Y_L_law) 440 = .ok (.if_icmp .eq 565, 3) := by decide +kernel
theorem dL_law_443 : decode (mC Y_L_law) 443 = .ok (.iconst 0, 1) := by decide +kernel
theorem dL_law_444 : decode (mC Y_L_law) 444 = .ok (.ireturn, 1) := by decide +kernel
theorem dL_law_445 : decode (mC Y_L_law) 445 = .ok (.aload_n 1, 1) := by decide +kernel
theorem dL_law_446 : decode (mC Y_L_law) 446 = .ok (.invokevirtual 61, 3) := by decide +kernel
theorem dL_law_449 : decode (mC Y_L_law) 449 = .ok (.aload_n 2, 1) := by decide +kernel
theorem dL_law_450 : decode (mC Y_L_law) 450 = .ok (.invokevirtual 64, 3) := by decide +kernel
theorem dL_law_453 : decode (mC Y_L_law) 453 = .ok (.if_icmp .eq 552, 3) := by decide +kernel
theorem dL_law_456 : decode (mC Y_L_law) 456 = .ok (.iconst 0, 1) := by decide +kernel
theorem dL_law_457 : decode (mC Y_L_law) 457 = .ok (.ireturn, 1) := by decide +kernel
theorem dL_law_458 : decode (mC Y_L_law) 458 = .ok (.aload_n 1, 1) := by decide +kernel
theorem dL_law_459 : decode (mC Y_L_law) 459 = .ok (.aload_n 0, 1) := by decide +kernel
theorem dL_law_460 : decode (mC Y_L_law) 460 = .ok (.iload_n 3, 1) := by decide +kernel
theorem dL_law_461 : decode (mC Y_L_law) 461 = .ok (.iconst 1, 1) := by decide +kernel
theorem dL_law_462 : decode (mC Y_L_law) 462 = .ok (.iadd, 1) := by decide +kernel
theorem dL_law_463 : decode (mC Y_L_law) 463 = .ok (.iaload, 1) := by decide +kernel
theorem dL_law_464 : decode (mC Y_L_law) 464 = .ok (.aload_n 0, 1) := by decide +kernel
theorem dL_law_465 : decode (mC Y_L_law) 465 = .ok (.iload_n 3, 1) := by decide +kernel
theorem dL_law_466 : decode (mC Y_L_law) 466 = .ok (.iconst 2, 1) := by decide +kernel
theorem dL_law_467 : decode (mC Y_L_law) 467 = .ok (.iadd, 1) := by decide +kernel
theorem dL_law_468 : decode (mC Y_L_law) 468 = .ok (.iaload, 1) := by decide +kernel
theorem dL_law_469 : decode (mC Y_L_law) 469 = .ok (.invokevirtual 65, 3) := by decide +kernel
theorem dL_law_472 : decode (mC Y_L_law) 472 = .ok (.aload_n 2, 1) := by decide +kernel
theorem dL_law_473 : decode (mC Y_L_law) 473 = .ok (.aload_n 0, 1) := by decide +kernel
theorem dL_law_474 : decode (mC Y_L_law) 474 = .ok (.iload_n 3, 1) := by decide +kernel
theorem dL_law_475 : decode (mC Y_L_law) 475 = .ok (.iconst 1, 1) := by decide +kernel
theorem dL_law_476 : decode (mC Y_L_law) 476 = .ok (.iadd, 1) := by decide +kernel
theorem dL_law_477 : decode (mC Y_L_law) 477 = .ok (.iaload, 1) := by decide +kernel
theorem dL_law_478 : decode (mC Y_L_law) 478 = .ok (.aload_n 0, 1) := by decide +kernel
theorem dL_law_479 : decode (mC Y_L_law) 479 = .ok (.iload_n 3, 1) := by decide +kernel
theorem dL_law_480 : decode (mC Y_L_law) 480 = .ok (.iconst 2, 1) := by decide +kernel
theorem dL_law_481 : decode (mC Y_L_law) 481 = .ok (.iadd, 1) := by decide +kernel
theorem dL_law_482 : decode (mC Y_L_law) 482 = .ok (.iaload, 1) := by decide +kernel
theorem dL_law_483 : decode (mC Y_L_law) 483 = .ok (.invokevirtual 68, 3) := by decide +kernel
theorem dL_law_486 : decode (mC Y_L_law) 486 = .ok (.if_icmp .eq 519, 3) := by decide +kernel
theorem dL_law_489 : decode (mC Y_L_law) 489 = .ok (.iconst 0, 1) := by decide +kernel
theorem dL_law_490 : decode (mC Y_L_law) 490 = .ok (.ireturn, 1) := by decide +kernel
theorem dL_law_491 : decode (mC Y_L_law) 491 = .ok (.aload_n 1, 1) := by decide +kernel
theorem dL_law_492 : decode (mC Y_L_law) 492 = .ok (.aload_n 0, 1) := by decide +kernel
theorem dL_law_493 : decode (mC Y_L_law) 493 = .ok (.iload_n 3, 1) := by decide +kernel
theorem dL_law_494 : decode (mC Y_L_law) 494 = .ok (.iconst 1, 1) := by decide +kernel
theorem dL_law_495 : decode (mC Y_L_law) 495 = .ok (.iadd, 1) := by decide +kernel
theorem dL_law_496 : decode (mC Y_L_law) 496 = .ok (.iaload, 1) := by decide +kernel
theorem dL_law_497 : decode (mC Y_L_law) 497 = .ok (.aload_n 0, 1) := by decide +kernel
theorem dL_law_498 : decode (mC Y_L_law) 498 = .ok (.iload_n 3, 1) := by decide +kernel
theorem dL_law_499 : decode (mC Y_L_law) 499 = .ok (.iconst 2, 1) := by decide +kernel
theorem dL_law_500 : decode (mC Y_L_law) 500 = .ok (.iadd, 1) := by decide +kernel
theorem dL_law_501 : decode (mC Y_L_law) 501 = .ok (.iaload, 1) := by decide +kernel
theorem dL_law_502 : decode (mC Y_L_law) 502 = .ok (.invokevirtual 69, 3) := by decide +kernel
theorem dL_law_505 : decode (mC Y_L_law) 505 = .ok (.aload_n 2, 1) := by decide +kernel
theorem dL_law_506 : decode (mC Y_L_law) 506 = .ok (.aload_n 0, 1) := by decide +kernel
theorem dL_law_507 : decode (mC Y_L_law) 507 = .ok (.iload_n 3, 1) := by decide +kernel
theorem dL_law_508 : decode (mC Y_L_law) 508 = .ok (.iconst 1, 1) := by decide +kernel
theorem dL_law_509 : decode (mC Y_L_law) 509 = .ok (.iadd, 1) := by decide +kernel
theorem dL_law_510 : decode (mC Y_L_law) 510 = .ok (.iaload, 1) := by decide +kernel
theorem dL_law_511 : decode (mC Y_L_law) 511 = .ok (.aload_n 0, 1) := by decide +kernel
theorem dL_law_512 : decode (mC Y_L_law) 512 = .ok (.iload_n 3, 1) := by decide +kernel
theorem dL_law_513 : decode (mC Y_L_law) 513 = .ok (.iconst 2, 1) := by decide +kernel
theorem dL_law_514 : decode (mC Y_L_law) 514 = .ok (.iadd, 1) := by decide +kernel
theorem dL_law_515 : decode (mC Y_L_law) 515 = .ok (.iaload, 1) := by decide +kernel
theorem dL_law_516 : decode (mC Y_L_law) 516 = .ok (.invokevirtual 72, 3) := by decide +kernel
theorem dL_law_519 : decode (mC Y_L_law) 519 = .ok (.if_icmp .eq 486, 3) := by decide +kernel
theorem dL_law_522 : decode (mC Y_L_law) 522 = .ok (.iconst 0, 1) := by decide +kernel
theorem dL_law_523 : decode (mC Y_L_law) 523 = .ok (.ireturn, 1) := by decide +kernel
theorem dL_law_524 : decode (mC Y_L_law) 524 = .ok (.aload_n 1, 1) := by decide +kernel
theorem dL_law_525 : decode (mC Y_L_law) 525 = .ok (.aload_n 0, 1) := by decide +kernel
theorem dL_law_526 : decode (mC Y_L_law) 526 = .ok (.iload_n 3, 1) := by decide +kernel
theorem dL_law_527 : decode (mC Y_L_law) 527 = .ok (.iconst 1, 1) := by decide +kernel
theorem dL_law_528 : decode (mC Y_L_law) 528 = .ok (.iadd, 1) := by decide +kernel
theorem dL_law_529 : decode (mC Y_L_law) 529 = .ok (.iaload, 1) := by decide +kernel
theorem dL_law_530 : decode (mC Y_L_law) 530 = .ok (.invokevirtual 73, 3) := by decide +kernel
theorem dL_law_533 : decode (mC Y_L_law) 533 = .ok (.aload_n 2, 1) := by decide +kernel
theorem dL_law_534 : decode (mC Y_L_law) 534 = .ok (.aload_n 0, 1) := by decide +kernel
theorem dL_law_535 : decode (mC Y_L_law) 535 = .ok (.iload_n 3, 1) := by decide +kernel
theorem dL_law_536 : decode (mC Y_L_law) 536 = .ok (.iconst 1, 1) := by decide +kernel
theorem dL_law_537 : decode (mC Y_L_law) 537 = .ok (.iadd, 1) := by decide +kernel
theorem dL_law_538 : decode (mC Y_L_law) 538 = .ok (.iaload, 1) := by decide +kernel
theorem dL_law_539 : decode (mC Y_L_law) 539 = .ok (.invokevirtual 76, 3) := by decide +kernel
theorem dL_law_542 : decode (mC Y_L_law) 542 = .ok (.if_icmp .eq 463, 3) := by decide +kernel
theorem dL_law_545 : decode (mC Y_L_law) 545 = .ok (.iconst 0, 1) := by decide +kernel
theorem dL_law_546 : decode (mC Y_L_law) 546 = .ok (.ireturn, 1) := by decide +kernel
theorem dL_law_547 : decode (mC Y_L_law) 547 = .ok (.aload_n 1, 1) := by decide +kernel
theorem dL_law_548 : decode (mC Y_L_law) 548 = .ok (.aload_n 0, 1) := by decide +kernel
theorem dL_law_549 : decode (mC Y_L_law) 549 = .ok (.iload_n 3, 1) := by decide +kernel
theorem dL_law_550 : decode (mC Y_L_law) 550 = .ok (.iconst 1, 1) := by decide +kernel
theorem dL_law_551 : decode (mC Y_L_law) 551 = .ok (.iadd, 1) := by decide +kernel
theorem dL_law_552 : decode (mC Y_L_law) 552 = .ok (.iaload, 1) := by decide +kernel
theorem dL_law_553 : decode (mC Y_L_law) 553 = .ok (.aload_n 0, 1) := by decide +kernel
theorem dL_law_554 : decode (mC Y_L_law) 554 = .ok (.iload_n 3, 1) := by decide +kernel
theorem dL_law_555 : decode (mC Y_L_law) 555 = .ok (.iconst 2, 1) := by decide +kernel
theorem dL_law_556 : decode (mC Y_L_law) 556 = .ok (.iadd, 1) := by decide +kernel
theorem dL_law_557 : decode (mC Y_L_law) 557 = .ok (.iaload, 1) := by decide +kernel
theorem dL_law_558 : decode (mC Y_L_law) 558 = .ok (.aload_n 0, 1) := by decide +kernel
theorem dL_law_559 : decode (mC Y_L_law) 559 = .ok (.iload_n 3, 1) := by decide +kernel
theorem dL_law_560 : decode (mC Y_L_law) 560 = .ok (.iconst 3, 1) := by decide +kernel
theorem dL_law_561 : decode (mC Y_L_law) 561 = .ok (.iadd, 1) := by decide +kernel
theorem dL_law_562 : decode (mC Y_L_law) 562 = .ok (.iaload, 1) := by decide +kernel
theorem dL_law_563 : decode (mC Y_L_law) 563 = .ok (.invokevirtual 77, 3) := by decide +kernel
theorem dL_law_566 : decode (mC Y_L_law) 566 = .ok (.aload_n 2, 1) := by decide +kernel
theorem dL_law_567 : decode (mC Y_L_law) 567 = .ok (.aload_n 0, 1) := by decide +kernel
theorem dL_law_568 : decode (mC Y_L_law) 568 = .ok (.iload_n 3, 1) := by decide +kernel
theorem dL_law_569 : decode (mC Y_L_law) 569 = .ok (.iconst 1, 1) := by decide +kernel
theorem dL_law_570 : decode (mC Y_L_law) 570 = .ok (.iadd, 1) := by decide +kernel
theorem dL_law_571 : decode (mC Y_L_law) 571 = .ok (.iaload, 1) := by decide +kernel
theorem dL_law_572 : decode (mC Y_L_law) 572 = .ok (.aload_n 0, 1) := by decide +kernel
theorem dL_law_573 : decode (mC Y_L_law) 573 = .ok (.iload_n 3, 1) := by decide +kernel
theorem dL_law_574 : decode (mC Y_L_law) 574 = .ok (.iconst 2, 1) := by decide +kernel
theorem dL_law_575 : decode (mC Y_L_law) 575 = .ok (.iadd, 1) := by decide +kernel
theorem dL_law_576 : decode (mC Y_L_law) 576 = .ok (.iaload, 1) := by decide +kernel
theorem dL_law_577 : decode (mC Y_L_law) 577 = .ok (.aload_n 0, 1) := by decide +kernel
theorem dL_law_578 : decode (mC Y_L_law) 578 = .ok (.iload_n 3, 1) := by decide +kernel
theorem dL_law_579 : decode (mC Y_L_law) 579 = .ok (.iconst 3, 1) := by decide +kernel
theorem dL_law_580 : decode (mC Y_L_law) 580 = .ok (.iadd, 1) := by decide +kernel
theorem dL_law_581 : decode (mC Y_L_law) 581 = .ok (.iaload, 1) := by decide +kernel
theorem dL_law_582 : decode (mC Y_L_law) 582 = .ok (.invokevirtual 80, 3) := by decide +kernel
theorem dL_law_585 : decode (mC Y_L_law) 585 = .ok (.if_icmp .eq 420, 3) := by decide +kernel
theorem dL_law_588 : decode (mC Y_L_law) 588 = .ok (.iconst 0, 1) := by decide +kernel
theorem dL_law_589 : decode (mC Y_L_law) 589 = .ok (.ireturn, 1) := by decide +kernel
theorem dL_law_590 : decode (mC Y_L_law) 590 = .ok (.aload_n 1, 1) := by decide +kernel
theorem dL_law_591 : decode (mC Y_L_law) 591 = .ok (.aload_n 0, 1) := by decide +kernel
theorem dL_law_592 : decode (mC Y_L_law) 592 = .ok (.iload_n 3, 1) := by decide +kernel
theorem dL_law_593 : decode (mC Y_L_law) 593 = .ok (.iconst 1, 1) := by decide +kernel
theorem dL_law_594 : decode (mC Y_L_law) 594 = .ok (.iadd, 1) := by decide +kernel
theorem dL_law_595 : decode (mC Y_L_law) 595 = .ok (.iaload, 1) := by decide +kernel
theorem dL_law_596 : decode (mC Y_L_law) 596 = .ok (.invokevirtual 81, 3) := by decide +kernel
theorem dL_law_599 : decode (mC Y_L_law) 599 = .ok (.aload_n 2, 1) := by decide +kernel
theorem dL_law_600 : decode (mC Y_L_law) 600 = .ok (.aload_n 0, 1) := by decide +kernel
theorem dL_law_601 : decode (mC Y_L_law) 601 = .ok (.iload_n 3, 1) := by decide +kernel
theorem dL_law_602 : decode (mC Y_L_law) 602 = .ok (.iconst 1, 1) := by decide +kernel
theorem dL_law_603 : decode (mC Y_L_law) 603 = .ok (.iadd, 1) := by decide +kernel
theorem dL_law_604 : decode (mC Y_L_law) 604 = .ok (.iaload, 1) := by decide +kernel
theorem dL_law_605 : decode (mC Y_L_law) 605 = .ok (.invokevirtual 84, 3) := by decide +kernel
theorem dL_law_608 : decode (mC Y_L_law) 608 = .ok (.if_icmp .eq 397, 3) := by decide +kernel
theorem dL_law_611 : decode (mC Y_L_law) 611 = .ok (.iconst 0, 1) := by decide +kernel
theorem dL_law_612 : decode (mC Y_L_law) 612 = .ok (.ireturn, 1) := by decide +kernel
theorem dL_law_613 : decode (mC Y_L_law) 613 = .ok (.aload_n 1, 1) := by decide +kernel
theorem dL_law_614 : decode (mC Y_L_law) 614 = .ok (.aload_n 0, 1) := by decide +kernel
theorem dL_law_615 : decode (mC Y_L_law) 615 = .ok (.iload_n 3, 1) := by decide +kernel
theorem dL_law_616 : decode (mC Y_L_law) 616 = .ok (.iconst 1, 1) := by decide +kernel
theorem dL_law_617 : decode (mC Y_L_law) 617 = .ok (.iadd, 1) := by decide +kernel
theorem dL_law_618 : decode (mC Y_L_law) 618 = .ok (.iaload, 1) := by decide +kernel
theorem dL_law_619 : decode (mC Y_L_law) 619 = .ok (.aload_n 0, 1) := by decide +kernel
theorem dL_law_620 : decode (mC Y_L_law) 620 = .ok (.iload_n 3, 1) := by decide +kernel
theorem dL_law_621 : decode (mC Y_L_law) 621 = .ok (.iconst 2, 1) := by decide +kernel
theorem dL_law_622 : decode (mC Y_L_law) 622 = .ok (.iadd, 1) := by decide +kernel
theorem dL_law_623 : decode (mC Y_L_law) 623 = .ok (.iaload, 1) := by decide +kernel
theorem dL_law_624 : decode (mC Y_L_law) 624 = .ok (.invokevirtual 85, 3) := by decide +kernel
theorem dL_law_627 : decode (mC Y_L_law) 627 = .ok (.aload_n 2, 1) := by decide +kernel
theorem dL_law_628 : decode (mC Y_L_law) 628 = .ok (.aload_n 0, 1) := by decide +kernel
theorem dL_law_629 : decode (mC Y_L_law) 629 = .ok (.iload_n 3, 1) := by decide +kernel
theorem dL_law_630 : decode (mC Y_L_law) 630 = .ok (.iconst 1, 1) := by decide +kernel
theorem dL_law_631 : decode (mC Y_L_law) 631 = .ok (.iadd, 1) := by decide +kernel
theorem dL_law_632 : decode (mC Y_L_law) 632 = .ok (.iaload, 1) := by decide +kernel
theorem dL_law_633 : decode (mC Y_L_law) 633 = .ok (.aload_n 0, 1) := by decide +kernel
theorem dL_law_634 : decode (mC Y_L_law) 634 = .ok (.iload_n 3, 1) := by decide +kernel
theorem dL_law_635 : decode (mC Y_L_law) 635 = .ok (.iconst 2, 1) := by decide +kernel
theorem dL_law_636 : decode (mC Y_L_law) 636 = .ok (.iadd, 1) := by decide +kernel
theorem dL_law_637 : decode (mC Y_L_law) 637 = .ok (.iaload, 1) := by decide +kernel
theorem dL_law_638 : decode (mC Y_L_law) 638 = .ok (.invokevirtual 88, 3) := by decide +kernel
theorem dL_law_641 : decode (mC Y_L_law) 641 = .ok (.if_icmp .eq 364, 3) := by decide +kernel
theorem dL_law_644 : decode (mC Y_L_law) 644 = .ok (.iconst 0, 1) := by decide +kernel
theorem dL_law_645 : decode (mC Y_L_law) 645 = .ok (.ireturn, 1) := by decide +kernel
theorem dL_law_646 : decode (mC Y_L_law) 646 = .ok (.aload_n 1, 1) := by decide +kernel
theorem dL_law_647 : decode (mC Y_L_law) 647 = .ok (.aload_n 0, 1) := by decide +kernel
theorem dL_law_648 : decode (mC Y_L_law) 648 = .ok (.iload_n 3, 1) := by decide +kernel
theorem dL_law_649 : decode (mC Y_L_law) 649 = .ok (.iconst 1, 1) := by decide +kernel
theorem dL_law_650 : decode (mC Y_L_law) 650 = .ok (.iadd, 1) := by decide +kernel
theorem dL_law_651 : decode (mC Y_L_law) 651 = .ok (.iaload, 1) := by decide +kernel
theorem dL_law_652 : decode (mC Y_L_law) 652 = .ok (.invokevirtual 89, 3) := by decide +kernel
theorem dL_law_655 : decode (mC Y_L_law) 655 = .ok (.aload_n 2, 1) := by decide +kernel
theorem dL_law_656 : decode (mC Y_L_law) 656 = .ok (.aload_n 0, 1) := by decide +kernel
theorem dL_law_657 : decode (mC Y_L_law) 657 = .ok (.iload_n 3, 1) := by decide +kernel
theorem dL_law_658 : decode (mC Y_L_law) 658 = .ok (.iconst 1, 1) := by decide +kernel
theorem dL_law_659 : decode (mC Y_L_law) 659 = .ok (.iadd, 1) := by decide +kernel
theorem dL_law_660 : decode (mC Y_L_law) 660 = .ok (.iaload, 1) := by decide +kernel
theorem dL_law_661 : decode (mC Y_L_law) 661 = .ok (.invokevirtual 92, 3) := by decide +kernel
theorem dL_law_664 : decode (mC Y_L_law) 664 = .ok (.if_icmp .eq 341, 3) := by decide +kernel
theorem dL_law_667 : decode (mC Y_L_law) 667 = .ok (.iconst 0, 1) := by decide +kernel
theorem dL_law_668 : decode (mC Y_L_law) 668 = .ok (.ireturn, 1) := by decide +kernel
theorem dL_law_669 : decode (mC Y_L_law) 669 = .ok (.aload_n 1, 1) := by decide +kernel
theorem dL_law_670 : decode (mC Y_L_law) 670 = .ok (.aload_n 0, 1) := by decide +kernel
theorem dL_law_671 : decode (mC Y_L_law) 671 = .ok (.iload_n 3, 1) := by decide +kernel
theorem dL_law_672 : decode (mC Y_L_law) 672 = .ok (.iconst 1, 1) := by decide +kernel
theorem dL_law_673 : decode (mC Y_L_law) 673 = .ok (.iadd, 1) := by decide +kernel
theorem dL_law_674 : decode (mC Y_L_law) 674 = .ok (.iaload, 1) := by decide +kernel
theorem dL_law_675 : decode (mC Y_L_law) 675 = .ok (.aload_n 0, 1) := by decide +kernel
theorem dL_law_676 : decode (mC Y_L_law) 676 = .ok (.iload_n 3, 1) := by decide +kernel
theorem dL_law_677 : decode (mC Y_L_law) 677 = .ok (.iconst 2, 1) := by decide +kernel
theorem dL_law_678 : decode (mC Y_L_law) 678 = .ok (.iadd, 1) := by decide +kernel
theorem dL_law_679 : decode (mC Y_L_law) 679 = .ok (.iaload, 1) := by decide +kernel
theorem dL_law_680 : decode (mC Y_L_law) 680 = .ok (.aload_n 0, 1) := by decide +kernel
theorem dL_law_681 : decode (mC Y_L_law) 681 = .ok (.iload_n 3, 1) := by decide +kernel
theorem dL_law_682 : decode (mC Y_L_law) 682 = .ok (.iconst 3, 1) := by decide +kernel
theorem dL_law_683 : decode (mC Y_L_law) 683 = .ok (.iadd, 1) := by decide +kernel
theorem dL_law_684 : decode (mC Y_L_law) 684 = .ok (.iaload, 1) := by decide +kernel
theorem dL_law_685 : decode (mC Y_L_law) 685 = .ok (.invokevirtual 93, 3) := by decide +kernel
theorem dL_law_688 : decode (mC Y_L_law) 688 = .ok (.aload_n 2, 1) := by decide +kernel
theorem dL_law_689 : decode (mC Y_L_law) 689 = .ok (.aload_n 0, 1) := by decide +kernel
theorem dL_law_690 : decode (mC Y_L_law) 690 = .ok (.iload_n 3, 1) := by decide +kernel
theorem dL_law_691 : decode (mC Y_L_law) 691 = .ok (.iconst 1, 1) := by decide +kernel
theorem dL_law_692 : decode (mC Y_L_law) 692 = .ok (.iadd, 1) := by decide +kernel
theorem dL_law_693 : decode (mC Y_L_law) 693 = .ok (.iaload, 1) := by decide +kernel
theorem dL_law_694 : decode (mC Y_L_law) 694 = .ok (.aload_n 0, 1) := by decide +kernel
theorem dL_law_695 : decode (mC Y_L_law) 695 = .ok (.iload_n 3, 1) := by decide +kernel
theorem dL_law_696 : decode (mC Y_L_law) 696 = .ok (.iconst 2, 1) := by decide +kernel
theorem dL_law_697 : decode (mC Y_L_law) 697 = .ok (.iadd, 1) := by decide +kernel
theorem dL_law_698 : decode (mC Y_L_law) 698 = .ok (.iaload, 1) := by decide +kernel
theorem dL_law_699 : decode (mC Y_L_law) 699 = .ok (.aload_n 0, 1) := by decide +kernel
theorem dL_law_700 : decode (mC Y_L_law) 700 = .ok (.iload_n 3, 1) := by decide +kernel
theorem dL_law_701 : decode (mC Y_L_law) 701 = .ok (.iconst 3, 1) := by decide +kernel
theorem dL_law_702 : decode (mC Y_L_law) 702 = .ok (.iadd, 1) := by decide +kernel
theorem dL_law_703 : decode (mC Y_L_law) 703 = .ok (.iaload, 1) := by decide +kernel
theorem dL_law_704 : decode (mC Y_L_law) 704 = .ok (.invokevirtual 96, 3) := by decide +kernel
theorem dL_law_707 : decode (mC Y_L_law) 707 = .ok (.if_icmp .eq 298, 3) := by decide +kernel
theorem dL_law_710 : decode (mC Y_L_law) 710 = .ok (.iconst 0, 1) := by decide +kernel
theorem dL_law_711 : decode (mC Y_L_law) 711 = .ok (.ireturn, 1) := by decide +kernel
theorem dL_law_712 : decode (mC Y_L_law) 712 = .ok (.aload_n 1, 1) := by decide +kernel
theorem dL_law_713 : decode (mC Y_L_law) 713 = .ok (.aload_n 0, 1) := by decide +kernel
theorem dL_law_714 : decode (mC Y_L_law) 714 = .ok (.iload_n 3, 1) := by decide +kernel
theorem dL_law_715 : decode (mC Y_L_law) 715 = .ok (.iconst 1, 1) := by decide +kernel
theorem dL_law_716 : decode (mC Y_L_law) 716 = .ok (.iadd, 1) := by decide +kernel
theorem dL_law_717 : decode (mC Y_L_law) 717 = .ok (.iaload, 1) := by decide +kernel
theorem dL_law_718 : decode (mC Y_L_law) 718 = .ok (.invokevirtual 97, 3) := by decide +kernel
theorem dL_law_721 : decode (mC Y_L_law) 721 = .ok (.aload_n 2, 1) := by decide +kernel
theorem dL_law_722 : decode (mC Y_L_law) 722 = .ok (.aload_n 0, 1) := by decide +kernel
theorem dL_law_723 : decode (mC Y_L_law) 723 = .ok (.iload_n 3, 1) := by decide +kernel
theorem dL_law_724 : decode (mC Y_L_law) 724 = .ok (.iconst 1, 1) := by decide +kernel
theorem dL_law_725 : decode (mC Y_L_law) 725 = .ok (.iadd, 1) := by decide +kernel
theorem dL_law_726 : decode (mC Y_L_law) 726 = .ok (.iaload, 1) := by decide +kernel
theorem dL_law_727 : decode (mC Y_L_law) 727 = .ok (.invokevirtual 100, 3) := by decide +kernel
theorem dL_law_730 : decode (mC Y_L_law) 730 = .ok (.if_icmp .eq 275, 3) := by decide +kernel
theorem dL_law_733 : decode (mC Y_L_law) 733 = .ok (.iconst 0, 1) := by decide +kernel
theorem dL_law_734 : decode (mC Y_L_law) 734 = .ok (.ireturn, 1) := by decide +kernel
theorem dL_law_735 : decode (mC Y_L_law) 735 = .ok (.aload_n 1, 1) := by decide +kernel
theorem dL_law_736 : decode (mC Y_L_law) 736 = .ok (.aload_n 0, 1) := by decide +kernel
theorem dL_law_737 : decode (mC Y_L_law) 737 = .ok (.iload_n 3, 1) := by decide +kernel
theorem dL_law_738 : decode (mC Y_L_law) 738 = .ok (.iconst 1, 1) := by decide +kernel
theorem dL_law_739 : decode (mC Y_L_law) 739 = .ok (.iadd, 1) := by decide +kernel
theorem dL_law_740 : decode (mC Y_L_law) 740 = .ok (.iaload, 1) := by decide +kernel
theorem dL_law_741 : decode (mC Y_L_law) 741 = .ok (.invokevirtual 101, 3) := by decide +kernel
theorem dL_law_744 : decode (mC Y_L_law) 744 = .ok (.aload_n 2, 1) := by decide +kernel
theorem dL_law_745 : decode (mC Y_L_law) 745 = .ok (.aload_n 0, 1) := by decide +kernel
theorem dL_law_746 : decode (mC Y_L_law) 746 = .ok (.iload_n 3, 1) := by decide +kernel
theorem dL_law_747 : decode (mC Y_L_law) 747 = .ok (.iconst 1, 1) := by decide +kernel
theorem dL_law_748 : decode (mC Y_L_law) 748 = .ok (.iadd, 1) := by decide +kernel
theorem dL_law_749 : decode (mC Y_L_law) 749 = .ok (.iaload, 1) := by decide +kernel
theorem dL_law_750 : decode (mC Y_L_law) 750 = .ok (.invokevirtual 104, 3) := by decide +kernel
theorem dL_law_753 : decode (mC Y_L_law) 753 = .ok (.if_icmp .eq 252, 3) := by decide +kernel
theorem dL_law_756 : decode (mC Y_L_law) 756 = .ok (.iconst 0, 1) := by decide +kernel
theorem dL_law_757 : decode (mC Y_L_law) 757 = .ok (.ireturn, 1) := by decide +kernel
theorem dL_law_758 : decode (mC Y_L_law) 758 = .ok (.aload_n 1, 1) := by decide +kernel
theorem dL_law_759 : decode (mC Y_L_law) 759 = .ok (.aload_n 0, 1) := by decide +kernel
theorem dL_law_760 : decode (mC Y_L_law) 760 = .ok (.iload_n 3, 1) := by decide +kernel
theorem dL_law_761 : decode (mC Y_L_law) 761 = .ok (.iconst 1, 1) := by decide +kernel
theorem dL_law_762 : decode (mC Y_L_law) 762 = .ok (.iadd, 1) := by decide +kernel
theorem dL_law_763 : decode (mC Y_L_law) 763 = .ok (.iaload, 1) := by decide +kernel
theorem dL_law_764 : decode (mC Y_L_law) 764 = .ok (.aload_n 0, 1) := by decide +kernel
theorem dL_law_765 : decode (mC Y_L_law) 765 = .ok (.iload_n 3, 1) := by decide +kernel
theorem dL_law_766 : decode (mC Y_L_law) 766 = .ok (.iconst 2, 1) := by decide +kernel
theorem dL_law_767 : decode (mC Y_L_law) 767 = .ok (.iadd, 1) := by decide +kernel
theorem dL_law_768 : decode (mC Y_L_law) 768 = .ok (.iaload, 1) := by decide +kernel
theorem dL_law_769 : decode (mC Y_L_law) 769 = .ok (.invokevirtual 105, 3) := by decide +kernel
theorem dL_law_772 : decode (mC Y_L_law) 772 = .ok (.aload_n 2, 1) := by decide +kernel
theorem dL_law_773 : decode (mC Y_L_law) 773 = .ok (.aload_n 0, 1) := by decide +kernel
theorem dL_law_774 : decode (mC Y_L_law) 774 = .ok (.iload_n 3, 1) := by decide +kernel
theorem dL_law_775 : decode (mC Y_L_law) 775 = .ok (.iconst 1, 1) := by decide +kernel
theorem dL_law_776 : decode (mC Y_L_law) 776 = .ok (.iadd, 1) := by decide +kernel
theorem dL_law_777 : decode (mC Y_L_law) 777 = .ok (.iaload, 1) := by decide +kernel
theorem dL_law_778 : decode (mC Y_L_law) 778 = .ok (.aload_n 0, 1) := by decide +kernel
theorem dL_law_779 : decode (mC Y_L_law) 779 = .ok (.iload_n 3, 1) := by decide +kernel
theorem dL_law_780 : decode (mC Y_L_law) 780 = .ok (.iconst 2, 1) := by decide +kernel
theorem dL_law_781 : decode (mC Y_L_law) 781 = .ok (.iadd, 1) := by decide +kernel
theorem dL_law_782 : decode (mC Y_L_law) 782 = .ok (.iaload, 1) := by decide +kernel
theorem dL_law_783 : decode (mC Y_L_law) 783 = .ok (.invokevirtual 108, 3) := by decide +kernel
theorem dL_law_786 : decode (mC Y_L_law) 786 = .ok (.if_icmp .eq 219, 3) := by decide +kernel
theorem dL_law_789 : decode (mC Y_L_law) 789 = .ok (.iconst 0, 1) := by decide +kernel
theorem dL_law_790 : decode (mC Y_L_law) 790 = .ok (.ireturn, 1) := by decide +kernel
theorem dL_law_791 : decode (mC Y_L_law) 791 = .ok (.aload_n 1, 1) := by decide +kernel
theorem dL_law_792 : decode (mC Y_L_law) 792 = .ok (.aload_n 0, 1) := by decide +kernel
theorem dL_law_793 : decode (mC Y_L_law) 793 = .ok (.iload_n 3, 1) := by decide +kernel
theorem dL_law_794 : decode (mC Y_L_law) 794 = .ok (.iconst 1, 1) := by decide +kernel
theorem dL_law_795 : decode (mC Y_L_law) 795 = .ok (.iadd, 1) := by decide +kernel
theorem dL_law_796 : decode (mC Y_L_law) 796 = .ok (.iaload, 1) := by decide +kernel
theorem dL_law_797 : decode (mC Y_L_law) 797 = .ok (.invokevirtual 109, 3) := by decide +kernel
theorem dL_law_800 : decode (mC Y_L_law) 800 = .ok (.aload_n 2, 1) := by decide +kernel
theorem dL_law_801 : decode (mC Y_L_law) 801 = .ok (.aload_n 0, 1) := by decide +kernel
theorem dL_law_802 : decode (mC Y_L_law) 802 = .ok (.iload_n 3, 1) := by decide +kernel
theorem dL_law_803 : decode (mC Y_L_law) 803 = .ok (.iconst 1, 1) := by decide +kernel
theorem dL_law_804 : decode (mC Y_L_law) 804 = .ok (.iadd, 1) := by decide +kernel
theorem dL_law_805 : decode (mC Y_L_law) 805 = .ok (.iaload, 1) := by decide +kernel
theorem dL_law_806 : decode (mC Y_L_law) 806 = .ok (.invokevirtual 112, 3) := by decide +kernel
theorem dL_law_809 : decode (mC Y_L_law) 809 = .ok (.if_icmp .eq 196, 3) := by decide +kernel
theorem dL_law_812 : decode (mC Y_L_law) 812 = .ok (.iconst 0, 1) := by decide +kernel
theorem dL_law_813 : decode (mC Y_L_law) 813 = .ok (.ireturn, 1) := by decide +kernel
theorem dL_law_814 : decode (mC Y_L_law) 814 = .ok (.aload_n 1, 1) := by decide +kernel
theorem dL_law_815 : decode (mC Y_L_law) 815 = .ok (.aload_n 0, 1) := by decide +kernel
theorem dL_law_816 : decode (mC Y_L_law) 816 = .ok (.iload_n 3, 1) := by decide +kernel
theorem dL_law_817 : decode (mC Y_L_law) 817 = .ok (.iconst 1, 1) := by decide +kernel
theorem dL_law_818 : decode (mC Y_L_law) 818 = .ok (.iadd, 1) := by decide +kernel
theorem dL_law_819 : decode (mC Y_L_law) 819 = .ok (.iaload, 1) := by decide +kernel
theorem dL_law_820 : decode (mC Y_L_law) 820 = .ok (.invokevirtual 113, 3) := by decide +kernel
theorem dL_law_823 : decode (mC Y_L_law) 823 = .ok (.aload_n 2, 1) := by decide +kernel
theorem dL_law_824 : decode (mC Y_L_law) 824 = .ok (.aload_n 0, 1) := by decide +kernel
theorem dL_law_825 : decode (mC Y_L_law) 825 = .ok (.iload_n 3, 1) := by decide +kernel
theorem dL_law_826 : decode (mC Y_L_law) 826 = .ok (.iconst 1, 1) := by decide +kernel
theorem dL_law_827 : decode (mC Y_L_law) 827 = .ok (.iadd, 1) := by decide +kernel
theorem dL_law_828 : decode (mC Y_L_law) 828 = .ok (.iaload, 1) := by decide +kernel
theorem dL_law_829 : decode (mC Y_L_law) 829 = .ok (.invokevirtual 116, 3) := by decide +kernel
theorem dL_law_832 : decode (mC Y_L_law) 832 = .ok (.if_icmp .eq 173, 3) := by decide +kernel
theorem dL_law_835 : decode (mC Y_L_law) 835 = .ok (.iconst 0, 1) := by decide +kernel
theorem dL_law_836 : decode (mC Y_L_law) 836 = .ok (.ireturn, 1) := by decide +kernel
theorem dL_law_837 : decode (mC Y_L_law) 837 = .ok (.aload_n 1, 1) := by decide +kernel
theorem dL_law_838 : decode (mC Y_L_law) 838 = .ok (.invokevirtual 117, 3) := by decide +kernel
theorem dL_law_841 : decode (mC Y_L_law) 841 = .ok (.aload_n 2, 1) := by decide +kernel
theorem dL_law_842 : decode (mC Y_L_law) 842 = .ok (.invokevirtual 120, 3) := by decide +kernel
theorem dL_law_845 : decode (mC Y_L_law) 845 = .ok (.if_icmp .eq 160, 3) := by decide +kernel
theorem dL_law_848 : decode (mC Y_L_law) 848 = .ok (.iconst 0, 1) := by decide +kernel
theorem dL_law_849 : decode (mC Y_L_law) 849 = .ok (.ireturn, 1) := by decide +kernel
theorem dL_law_850 : decode (mC Y_L_law) 850 = .ok (.aload_n 1, 1) := by decide +kernel
theorem dL_law_851 : decode (mC Y_L_law) 851 = .ok (.aload_n 0, 1) := by decide +kernel
theorem dL_law_852 : decode (mC Y_L_law) 852 = .ok (.iload_n 3, 1) := by decide +kernel
theorem dL_law_853 : decode (mC Y_L_law) 853 = .ok (.iconst 1, 1) := by decide +kernel
theorem dL_law_854 : decode (mC Y_L_law) 854 = .ok (.iadd, 1) := by decide +kernel
theorem dL_law_855 : decode (mC Y_L_law) 855 = .ok (.iaload, 1) := by decide +kernel
theorem dL_law_856 : decode (mC Y_L_law) 856 = .ok (.aload_n 0, 1) := by decide +kernel
theorem dL_law_857 : decode (mC Y_L_law) 857 = .ok (.iload_n 3, 1) := by decide +kernel
theorem dL_law_858 : decode (mC Y_L_law) 858 = .ok (.iconst 2, 1) := by decide +kernel
theorem dL_law_859 : decode (mC Y_L_law) 859 = .ok (.iadd, 1) := by decide +kernel
theorem dL_law_860 : decode (mC Y_L_law) 860 = .ok (.iaload, 1) := by decide +kernel
theorem dL_law_861 : decode (mC Y_L_law) 861 = .ok (.aload_n 0, 1) := by decide +kernel
theorem dL_law_862 : decode (mC Y_L_law) 862 = .ok (.iload_n 3, 1) := by decide +kernel
theorem dL_law_863 : decode (mC Y_L_law) 863 = .ok (.iconst 3, 1) := by decide +kernel
theorem dL_law_864 : decode (mC Y_L_law) 864 = .ok (.iadd, 1) := by decide +kernel
theorem dL_law_865 : decode (mC Y_L_law) 865 = .ok (.iaload, 1) := by decide +kernel
theorem dL_law_866 : decode (mC Y_L_law) 866 = .ok (.aload_n 0, 1) := by decide +kernel
theorem dL_law_867 : decode (mC Y_L_law) 867 = .ok (.iload_n 3, 1) := by decide +kernel
theorem dL_law_868 : decode (mC Y_L_law) 868 = .ok (.iconst 4, 1) := by decide +kernel
theorem dL_law_869 : decode (mC Y_L_law) 869 = .ok (.iadd, 1) := by decide +kernel
theorem dL_law_870 : decode (mC Y_L_law) 870 = .ok (.iaload, 1) := by decide +kernel
theorem dL_law_871 : decode (mC Y_L_law) 871 = .ok (.aload_n 0, 1) := by decide +kernel
theorem dL_law_872 : decode (mC Y_L_law) 872 = .ok (.iload_n 3, 1) := by decide +kernel
theorem dL_law_873 : decode (mC Y_L_law) 873 = .ok (.iconst 5, 1) := by decide +kernel
theorem dL_law_874 : decode (mC Y_L_law) 874 = .ok (.iadd, 1) := by decide +kernel
theorem dL_law_875 : decode (mC Y_L_law) 875 = .ok (.iaload, 1) := by decide +kernel
theorem dL_law_876 : decode (mC Y_L_law) 876 = .ok (.invokevirtual 121, 3) := by decide +kernel
theorem dL_law_879 : decode (mC Y_L_law) 879 = .ok (.aload_n 2, 1) := by decide +kernel
theorem dL_law_880 : decode (mC Y_L_law) 880 = .ok (.aload_n 0, 1) := by decide +kernel
theorem dL_law_881 : decode (mC Y_L_law) 881 = .ok (.iload_n 3, 1) := by decide +kernel
theorem dL_law_882 : decode (mC Y_L_law) 882 = .ok (.iconst 1, 1) := by decide +kernel
theorem dL_law_883 : decode (mC Y_L_law) 883 = .ok (.iadd, 1) := by decide +kernel
theorem dL_law_884 : decode (mC Y_L_law) 884 = .ok (.iaload, 1) := by decide +kernel
theorem dL_law_885 : decode (mC Y_L_law) 885 = .ok (.aload_n 0, 1) := by decide +kernel
theorem dL_law_886 : decode (mC Y_L_law) 886 = .ok (.iload_n 3, 1) := by decide +kernel
theorem dL_law_887 : decode (mC Y_L_law) 887 = .ok (.iconst 2, 1) := by decide +kernel
theorem dL_law_888 : decode (mC Y_L_law) 888 = .ok (.iadd, 1) := by decide +kernel
theorem dL_law_889 : decode (mC Y_L_law) 889 = .ok (.iaload, 1) := by decide +kernel
theorem dL_law_890 : decode (mC Y_L_law) 890 = .ok (.aload_n 0, 1) := by decide +kernel
theorem dL_law_891 : decode (mC Y_L_law) 891 = .ok (.iload_n 3, 1) := by decide +kernel
theorem dL_law_892 : decode (mC Y_L_law) 892 = .ok (.iconst 3, 1) := by decide +kernel
theorem dL_law_893 : decode (mC Y_L_law) 893 = .ok (.iadd, 1) := by decide +kernel
theorem dL_law_894 : decode (mC Y_L_law) 894 = .ok (.iaload, 1) := by decide +kernel
theorem dL_law_895 : decode (mC Y_L_law) 895 = .ok (.aload_n 0, 1) := by decide +kernel
theorem dL_law_896 : decode (mC Y_L_law) 896 = .ok (.iload_n 3, 1) := by decide +kernel
theorem dL_law_897 : decode (mC Y_L_law) 897 = .ok (.iconst 4, 1) := by decide +kernel
theorem dL_law_898 : decode (mC Y_L_law) 898 = .ok (.iadd, 1) := by decide +kernel
theorem dL_law_899 : decode (mC Y_L_law) 899 = .ok (.iaload, 1) := by decide +kernel
theorem dL_law_900 : decode (mC Y_L_law) 900 = .ok (.aload_n 0, 1) := by decide +kernel
theorem dL_law_901 : decode (mC Y_L_law) 901 = .ok (.iload_n 3, 1) := by decide +kernel
theorem dL_law_902 : decode (mC Y_L_law) 902 = .ok (.iconst 5, 1) := by decide +kernel
theorem dL_law_903 : decode (mC Y_L_law) 903 = .ok (.iadd, 1) := by decide +kernel
theorem dL_law_904 : decode (mC Y_L_law) 904 = .ok (.iaload, 1) := by decide +kernel
theorem dL_law_905 : decode (mC Y_L_law) 905 = .ok (.invokevirtual 125, 3) := by decide +kernel
theorem dL_law_908 : decode (mC Y_L_law) 908 = .ok (.if_icmp .eq 97, 3) := by decide +kernel
theorem dL_law_911 : decode (mC Y_L_law) 911 = .ok (.iconst 0, 1) := by decide +kernel
theorem dL_law_912 : decode (mC Y_L_law) 912 = .ok (.ireturn, 1) := by decide +kernel
theorem dL_law_913 : decode (mC Y_L_law) 913 = .ok (.aload_n 1, 1) := by decide +kernel
theorem dL_law_914 : decode (mC Y_L_law) 914 = .ok (.aload_n 0, 1) := by decide +kernel
theorem dL_law_915 : decode (mC Y_L_law) 915 = .ok (.iload_n 3, 1) := by decide +kernel
theorem dL_law_916 : decode (mC Y_L_law) 916 = .ok (.iconst 1, 1) := by decide +kernel
theorem dL_law_917 : decode (mC Y_L_law) 917 = .ok (.iadd, 1) := by decide +kernel
theorem dL_law_918 : decode (mC Y_L_law) 918 = .ok (.iaload, 1) := by decide +kernel
theorem dL_law_919 : decode (mC Y_L_law) 919 = .ok (.aload_n 0, 1) := by decide +kernel
theorem dL_law_920 : decode (mC Y_L_law) 920 = .ok (.iload_n 3, 1) := by decide +kernel
theorem dL_law_921 : decode (mC Y_L_law) 921 = .ok (.iconst 2, 1) := by decide +kernel
theorem dL_law_922 : decode (mC Y_L_law) 922 = .ok (.iadd, 1) := by decide +kernel
theorem dL_law_923 : decode (mC Y_L_law) 923 = .ok (.iaload, 1) := by decide +kernel
theorem dL_law_924 : decode (mC Y_L_law) 924 = .ok (.aload_n 0, 1) := by decide +kernel
theorem dL_law_925 : decode (mC Y_L_law) 925 = .ok (.iload_n 3, 1) := by decide +kernel
theorem dL_law_926 : decode (mC Y_L_law) 926 = .ok (.iconst 3, 1) := by decide +kernel
theorem dL_law_927 : decode (mC Y_L_law) 927 = .ok (.iadd, 1) := by decide +kernel
theorem dL_law_928 : decode (mC Y_L_law) 928 = .ok (.iaload, 1) := by decide +kernel
theorem dL_law_929 : decode (mC Y_L_law) 929 = .ok (.invokevirtual 126, 3) := by decide +kernel
theorem dL_law_932 : decode (mC Y_L_law) 932 = .ok (.aload_n 2, 1) := by decide +kernel
theorem dL_law_933 : decode (mC Y_L_law) 933 = .ok (.aload_n 0, 1) := by decide +kernel
theorem dL_law_934 : decode (mC Y_L_law) 934 = .ok (.iload_n 3, 1) := by decide +kernel
theorem dL_law_935 : decode (mC Y_L_law) 935 = .ok (.iconst 1, 1) := by decide +kernel
theorem dL_law_936 : decode (mC Y_L_law) 936 = .ok (.iadd, 1) := by decide +kernel
theorem dL_law_937 : decode (mC Y_L_law) 937 = .ok (.iaload, 1) := by decide +kernel
theorem dL_law_938 : decode (mC Y_L_law) 938 = .ok (.aload_n 0, 1) := by decide +kernel
theorem dL_law_939 : decode (mC Y_L_law) 939 = .ok (.iload_n 3, 1) := by decide +kernel
theorem dL_law_940 : decode (mC Y_L_law) 940 = .ok (.iconst 2, 1) := by decide +kernel
theorem dL_law_941 : decode (mC Y_L_law) 941 = .ok (.iadd, 1) := by decide +kernel
theorem dL_law_942 : decode (mC Y_L_law) 942 = .ok (.iaload, 1) := by decide +kernel
theorem dL_law_943 : decode (mC Y_L_law) 943 = .ok (.aload_n 0, 1) := by decide +kernel
theorem dL_law_944 : decode (mC Y_L_law) 944 = .ok (.iload_n 3, 1) := by decide +kernel
theorem dL_law_945 : decode (mC Y_L_law) 945 = .ok (.iconst 3, 1) := by decide +kernel
theorem dL_law_946 : decode (mC Y_L_law) 946 = .ok (.iadd, 1) := by decide +kernel
theorem dL_law_947 : decode (mC Y_L_law) 947 = .ok (.iaload, 1) := by decide +kernel
theorem dL_law_948 : decode (mC Y_L_law) 948 = .ok (.invokevirtual 129, 3) := by decide +kernel
theorem dL_law_951 : decode (mC Y_L_law) 951 = .ok (.if_icmp .eq 54, 3) := by decide +kernel
theorem dL_law_954 : decode (mC Y_L_law) 954 = .ok (.iconst 0, 1) := by decide +kernel
theorem dL_law_955 : decode (mC Y_L_law) 955 = .ok (.ireturn, 1) := by decide +kernel
theorem dL_law_956 : decode (mC Y_L_law) 956 = .ok (.aload_n 1, 1) := by decide +kernel
theorem dL_law_957 : decode (mC Y_L_law) 957 = .ok (.invokevirtual 130, 3) := by decide +kernel
theorem dL_law_960 : decode (mC Y_L_law) 960 = .ok (.aload_n 2, 1) := by decide +kernel
theorem dL_law_961 : decode (mC Y_L_law) 961 = .ok (.invokevirtual 133, 3) := by decide +kernel
theorem dL_law_964 : decode (mC Y_L_law) 964 = .ok (.if_icmp .eq 41, 3) := by decide +kernel
theorem dL_law_967 : decode (mC Y_L_law) 967 = .ok (.iconst 0, 1) := by decide +kernel
theorem dL_law_968 : decode (mC Y_L_law) 968 = .ok (.ireturn, 1) := by decide +kernel
theorem dL_law_969 : decode (mC Y_L_law) 969 = .ok (.aload_n 1, 1) := by decide +kernel
theorem dL_law_970 : decode (mC Y_L_law) 970 = .ok (.invokevirtual 134, 3) := by decide +kernel
theorem dL_law_973 : decode (mC Y_L_law) 973 = .ok (.aload_n 2, 1) := by decide +kernel
theorem dL_law_974 : decode (mC Y_L_law) 974 = .ok (.invokevirtual 137, 3) := by decide +kernel
theorem dL_law_977 : decode (mC Y_L_law) 977 = .ok (.if_icmp .eq 28, 3) := by decide +kernel
theorem dL_law_980 : decode (mC Y_L_law) 980 = .ok (.iconst 0, 1) := by decide +kernel
theorem dL_law_981 : decode (mC Y_L_law) 981 = .ok (.ireturn, 1) := by decide +kernel
theorem dL_law_982 : decode (mC Y_L_law) 982 = .ok (.aload_n 1, 1) := by decide +kernel
theorem dL_law_983 : decode (mC Y_L_law) 983 = .ok (.aload_n 0, 1) := by decide +kernel
theorem dL_law_984 : decode (mC Y_L_law) 984 = .ok (.iload_n 3, 1) := by decide +kernel
theorem dL_law_985 : decode (mC Y_L_law) 985 = .ok (.iconst 1, 1) := by decide +kernel
theorem dL_law_986 : decode (mC Y_L_law) 986 = .ok (.iadd, 1) := by decide +kernel
theorem dL_law_987 : decode (mC Y_L_law) 987 = .ok (.iaload, 1) := by decide +kernel
theorem dL_law_988 : decode (mC Y_L_law) 988 = .ok (.invokevirtual 138, 3) := by decide +kernel
theorem dL_law_991 : decode (mC Y_L_law) 991 = .ok (.aload_n 2, 1) := by decide +kernel
theorem dL_law_992 : decode (mC Y_L_law) 992 = .ok (.aload_n 0, 1) := by decide +kernel
theorem dL_law_993 : decode (mC Y_L_law) 993 = .ok (.iload_n 3, 1) := by decide +kernel
theorem dL_law_994 : decode (mC Y_L_law) 994 = .ok (.iconst 1, 1) := by decide +kernel
theorem dL_law_995 : decode (mC Y_L_law) 995 = .ok (.iadd, 1) := by decide +kernel
theorem dL_law_996 : decode (mC Y_L_law) 996 = .ok (.iaload, 1) := by decide +kernel
theorem dL_law_997 : decode (mC Y_L_law) 997 = .ok (.invokevirtual 141, 3) := by decide +kernel
theorem dL_law_1000 : decode (mC Y_L_law) 1000 = .ok (.if_icmp .eq 5, 3) := by decide +kernel
theorem dL_law_1003 : decode (mC Y_L_law) 1003 = .ok (.iconst 0, 1) := by decide +kernel
theorem dL_law_1004 : decode (mC Y_L_law) 1004 = .ok (.ireturn, 1) := by decide +kernel
theorem dL_law_1005 : decode (mC Y_L_law) 1005 = .ok (.iinc 3 6, 3) := by decide +kernel
theorem dL_law_1008 : decode (mC Y_L_law) 1008 = .ok (.goto (-990), 3) := by decide +kernel
theorem dL_law_1011 : decode (mC Y_L_law) 1011 = .ok (.iconst 1, 1) := by decide +kernel
theorem dL_law_1012 : decode (mC Y_L_law) 1012 = .ok (.ireturn, 1) := by decide +kernel
theorem w_L_law_1005 {D : DT} {l : Launch} {post : Option Value → Mem → Prop} {r18 : Nat → Nat → Nat → Int32 → Mem → Option (Int32 × Mem)} (hr18 : ∀ (x0 : Nat) (x1 : Nat) (x2 : Nat) (x3 : Int32) (m : Mem), HI (r18 x0 x1 x2 x3 m) post → WP D l Y_L_law 258 2584 18 [.ref x0, .ref x1, .ref x2, .int x3] [] m post) {x0 : Nat} {x1 : Nat} {x2 : Nat} {x3 : Int32} {m : Mem} (h : HI (F_L_law_1005 r18 x0 x1 x2 x3 m) post) : WP D l Y_L_law 258 2584 1005 [.ref x0, .ref x1, .ref x2, .int x3] [] m post := by
  refine wp_iinc (v := 6) dL_law_1005 rfl (by decide) rfl rfl ?_
  refine wp_goto (tgt := 18) dL_law_1008 (by decide) ?_
  exact (hr18 _ _ _ _ _ h)
theorem w_L_law_18 {D : DT} {l : Launch} {post : Option Value → Mem → Prop} : ∀ (n : Nat) (x0 : Nat) (x1 : Nat) (x2 : Nat) (x3 : Int32) (m : Mem), HI (F_L_law_18 n x0 x1 x2 x3 m) post → WP D l Y_L_law 258 2584 18 [.ref x0, .ref x1, .ref x2, .int x3] [] m post := by
  intro n
  induction n with
  | zero => intro x0 x1 x2 x3 m h; exact (HI.none h).elim
  | succ n ih =>
    intro x0 x1 x2 x3 m h
    refine wp_iload_n (i := 3) dL_law_18 rfl rfl ?_
    refine wp_aload_n (i := 0) dL_law_19 rfl rfl ?_
    obtain ⟨v1, ev1, h⟩ := HI.bind h
    refine wp_alen dL_law_20 ev1 ?_
    refine wp_bipush (v := 6) dL_law_21 (by decide) ?_
    refine wp_isub dL_law_23 ?_
    refine wp_icmp_gt (tgt := 1011) dL_law_24 (by decide) (fun c2 => ?_) (fun c2 => ?_)
    · have h := HI.t c2 h
      refine wp_iconst (v := 1) dL_law_1011 (by decide) ?_
      exact wp_iret dL_law_1012 rfl (by decide) (Nat.le_of_ble_eq_true rfl) (Nat.le_of_ble_eq_true rfl) (HI.some h)
    · have h := HI.f c2 h
      refine wp_aload_n (i := 0) dL_law_27 rfl rfl ?_
      refine wp_iload_n (i := 3) dL_law_28 rfl rfl ?_
      obtain ⟨v3, ev3, h⟩ := HI.bind h
      refine wp_iaload dL_law_29 ev3 ?_
      refine wp_bipush (v := 31) dL_law_30 (by decide) ?_
      refine wp_iand dL_law_32 ?_
      by_cases c4 : (v3 &&& (31 : Int32)) = 0
      · have h := HI.t c4 h
        refine wp_tsIn (tgt := 172) (v := 0) (z := 0) (off := 139) dL_law_33 c4 (by decide) (by decide) (by decide) (by decide) (by decide) ?_
        refine wp_aload_n (i := 1) dL_law_172 rfl rfl ?_
        refine wp_aload_n (i := 0) dL_law_173 rfl rfl ?_
        refine wp_iload_n (i := 3) dL_law_174 rfl rfl ?_
        refine wp_iconst (v := 1) dL_law_175 (by decide) ?_
        refine wp_iadd dL_law_176 ?_
        obtain ⟨v5, ev5, h⟩ := HI.bind h
        refine wp_iaload dL_law_177 ev5 ?_
        obtain ⟨v7, ev7, h⟩ := HI.bind h
        obtain ⟨v6, ev6, h⟩ := HI.bind h
        refine cgV_i (Y' := Y_X6_write) (kc2 := 258) (ks2 := 2584) dL_law_178 ml_L_13 ce_X6_write (t := 6) rfl (by decide) ⟨(Nat.le_of_ble_eq_true rfl), (Nat.le_of_ble_eq_true rfl)⟩ ⟨(Nat.le_of_ble_eq_true rfl), (Nat.le_of_ble_eq_true rfl)⟩ rfl rfl (chkT_eq ev7) (ct_X6_write ev6) rfl rfl (Nat.le_of_ble_eq_true rfl) ?_
        refine wp_aload_n (i := 2) dL_law_181 rfl rfl ?_
        refine wp_aload_n (i := 0) dL_law_182 rfl rfl ?_
        refine wp_iload_n (i := 3) dL_law_183 rfl rfl ?_
        refine wp_iconst (v := 1) dL_law_184 (by decide) ?_
        refine wp_iadd dL_law_185 ?_
        obtain ⟨v8, ev8, h⟩ := HI.bind h
        refine wp_iaload dL_law_186 ev8 ?_
        obtain ⟨v10, ev10, h⟩ := HI.bind h
        obtain ⟨v9, ev9, h⟩ := HI.bind h
        refine cgV_i (Y' := Y_X7_write) (kc2 := 258) (ks2 := 2584) dL_law_187 ml_L_17 ce_X7_write (t := 7) rfl (by decide) ⟨(Nat.le_of_ble_eq_true rfl), (Nat.le_of_ble_eq_true rfl)⟩ ⟨(Nat.le_of_ble_eq_true rfl), (Nat.le_of_ble_eq_true rfl)⟩ rfl rfl (chkT_eq ev10) (ct_X7_write ev9) rfl rfl (Nat.le_of_ble_eq_true rfl) ?_
        refine wp_icmp_eq (tgt := 1005) dL_law_190 (by decide) (fun c11 => ?_) (fun c11 => ?_)
        · have h := HI.t c11 h
          exact (w_L_law_1005 ih h)
        · have h := HI.f c11 h
          refine wp_iconst (v := 0) dL_law_193 (by decide) ?_
          exact wp_iret dL_law_194 rfl (by decide) (Nat.le_of_ble_eq_true rfl) (Nat.le_of_ble_eq_true rfl) (HI.some h)
      have h := HI.f c4 h
      by_cases c12 : (v3 &&& (31 : Int32)) = 1
      · have h := HI.t c12 h
        refine wp_tsIn (tgt := 195) (v := 1) (z := 1) (off := 162) dL_law_33 c12 (by decide) (by decide) (by decide) (by decide) (by decide) ?_
        refine wp_aload_n (i := 1) dL_law_195 rfl rfl ?_
        obtain ⟨v14, ev14, h⟩ := HI.bind h
        obtain ⟨v13, ev13, h⟩ := HI.bind h
        refine cgV_i (Y' := Y_X6_wipe) (kc2 := 258) (ks2 := 2584) dL_law_196 ml_L_18 ce_X6_wipe (t := 6) rfl (by decide) ⟨(Nat.le_of_ble_eq_true rfl), (Nat.le_of_ble_eq_true rfl)⟩ ⟨(Nat.le_of_ble_eq_true rfl), (Nat.le_of_ble_eq_true rfl)⟩ rfl rfl (chkT_eq ev14) (ct_X6_wipe ev13) rfl rfl (Nat.le_of_ble_eq_true rfl) ?_
        refine wp_aload_n (i := 2) dL_law_199 rfl rfl ?_
        obtain ⟨v16, ev16, h⟩ := HI.bind h
        obtain ⟨v15, ev15, h⟩ := HI.bind h
        refine cgV_i (Y' := Y_X7_wipe) (kc2 := 258) (ks2 := 2584) dL_law_200 ml_L_22 ce_X7_wipe (t := 7) rfl (by decide) ⟨(Nat.le_of_ble_eq_true rfl), (Nat.le_of_ble_eq_true rfl)⟩ ⟨(Nat.le_of_ble_eq_true rfl), (Nat.le_of_ble_eq_true rfl)⟩ rfl rfl (chkT_eq ev16) (ct_X7_wipe ev15) rfl rfl (Nat.le_of_ble_eq_true rfl) ?_
        refine wp_icmp_eq (tgt := 1005) dL_law_203 (by decide) (fun c17 => ?_) (fun c17 => ?_)
        · have h := HI.t c17 h
          exact (w_L_law_1005 ih h)
        · have h := HI.f c17 h
          refine wp_iconst (v := 0) dL_law_206 (by decide) ?_
          exact wp_iret dL_law_207 rfl (by decide) (Nat.le_of_ble_eq_true rfl) (Nat.le_of_ble_eq_true rfl) (HI.some h)
      have h := HI.f c12 h
      by_cases c18 : (v3 &&& (31 : Int32)) = 2
      · have h := HI.t c18 h
        refine wp_tsIn (tgt := 208) (v := 2) (z := 2) (off := 175) dL_law_33 c18 (by decide) (by decide) (by decide) (by decide) (by decide) ?_
        refine wp_aload_n (i := 1) dL_law_208 rfl rfl ?_
        obtain ⟨v20, ev20, h⟩ := HI.bind h
        obtain ⟨v19, ev19, h⟩ := HI.bind h
        refine cgV_i (Y' := Y_X6_fault) (kc2 := 258) (ks2 := 2584) dL_law_209 ml_L_23 ce_X6_fault (t := 6) rfl (by decide) ⟨(Nat.le_of_ble_eq_true rfl), (Nat.le_of_ble_eq_true rfl)⟩ ⟨(Nat.le_of_ble_eq_true rfl), (Nat.le_of_ble_eq_true rfl)⟩ rfl rfl (chkT_eq ev20) (ct_X6_fault ev19) rfl rfl (Nat.le_of_ble_eq_true rfl) ?_
        refine wp_aload_n (i := 2) dL_law_212 rfl rfl ?_
        obtain ⟨v22, ev22, h⟩ := HI.bind h
        obtain ⟨v21, ev21, h⟩ := HI.bind h
        refine cgV_i (Y' := Y_X7_fault) (kc2 := 258) (ks2 := 2584) dL_law_213 ml_L_26 ce_X7_fault (t := 7) rfl (by decide) ⟨(Nat.le_of_ble_eq_true rfl), (Nat.le_of_ble_eq_true rfl)⟩ ⟨(Nat.le_of_ble_eq_true rfl), (Nat.le_of_ble_eq_true rfl)⟩ rfl rfl (chkT_eq ev22) (ct_X7_fault ev21) rfl rfl (Nat.le_of_ble_eq_true rfl) ?_
        refine wp_icmp_eq (tgt := 1005) dL_law_216 (by decide) (fun c23 => ?_) (fun c23 => ?_)
        · have h := HI.t c23 h
          exact (w_L_law_1005 ih h)
        · have h := HI.f c23 h
          refine wp_iconst (v := 0) dL_law_219 (by decide) ?_
          exact wp_iret dL_law_220 rfl (by decide) (Nat.le_of_ble_eq_true rfl) (Nat.le_of_ble_eq_true rfl) (HI.some h)
      have h := HI.f c18 h
      by_cases c24 : (v3 &&& (31 : Int32)) = 3
      · have h := HI.t c24 h
        refine wp_tsIn (tgt := 221) (v := 3) (z := 3) (off := 188) dL_law_33 c24 (by decide) (by decide) (by decide) (by decide) (by decide) ?_
        refine wp_aload_n (i := 1) dL_law_221 rfl rfl ?_
        obtain ⟨v26, ev26, h⟩ := HI.bind h
        obtain ⟨v25, ev25, h⟩ := HI.bind h
        refine cgV_i (Y' := Y_X6_lay) (kc2 := 258) (ks2 := 2584) dL_law_222 ml_L_27 ce_X6_lay (t := 6) rfl (by decide) ⟨(Nat.le_of_ble_eq_true rfl), (Nat.le_of_ble_eq_true rfl)⟩ ⟨(Nat.le_of_ble_eq_true rfl), (Nat.le_of_ble_eq_true rfl)⟩ rfl rfl (chkT_eq ev26) (ct_X6_lay ev25) rfl rfl (Nat.le_of_ble_eq_true rfl) ?_
        refine wp_aload_n (i := 2) dL_law_225 rfl rfl ?_
        obtain ⟨v28, ev28, h⟩ := HI.bind h
        obtain ⟨v27, ev27, h⟩ := HI.bind h
        refine cgV_i (Y' := Y_X7_lay) (kc2 := 258) (ks2 := 2584) dL_law_226 ml_L_30 ce_X7_lay (t := 7) rfl (by decide) ⟨(Nat.le_of_ble_eq_true rfl), (Nat.le_of_ble_eq_true rfl)⟩ ⟨(Nat.le_of_ble_eq_true rfl), (Nat.le_of_ble_eq_true rfl)⟩ rfl rfl (chkT_eq ev28) (ct_X7_lay ev27) rfl rfl (Nat.le_of_ble_eq_true rfl) ?_
        refine wp_icmp_eq (tgt := 1005) dL_law_229 (by decide) (fun c29 => ?_) (fun c29 => ?_)
        · have h := HI.t c29 h
          exact (w_L_law_1005 ih h)
        · have h := HI.f c29 h
          refine wp_iconst (v := 0) dL_law_232 (by decide) ?_
          exact wp_iret dL_law_233 rfl (by decide) (Nat.le_of_ble_eq_true rfl) (Nat.le_of_ble_eq_true rfl) (HI.some h)
      have h := HI.f c24 h
      by_cases c30 : (v3 &&& (31 : Int32)) = 4
      · have h := HI.t c30 h
        refine wp_tsIn (tgt := 234) (v := 4) (z := 4) (off := 201) dL_law_33 c30 (by decide) (by decide) (by decide) (by decide) (by decide) ?_
        refine wp_aload_n (i := 1) dL_law_234 rfl rfl ?_
        refine wp_aload_n (i := 0) dL_law_235 rfl rfl ?_
        refine wp_iload_n (i := 3) dL_law_236 rfl rfl ?_
        refine wp_iconst (v := 1) dL_law_237 (by decide) ?_
        refine wp_iadd dL_law_238 ?_
        obtain ⟨v31, ev31, h⟩ := HI.bind h
        refine wp_iaload dL_law_239 ev31 ?_
        refine wp_aload_n (i := 0) dL_law_240 rfl rfl ?_
        refine wp_iload_n (i := 3) dL_law_241 rfl rfl ?_
        refine wp_iconst (v := 2) dL_law_242 (by decide) ?_
        refine wp_iadd dL_law_243 ?_
        obtain ⟨v32, ev32, h⟩ := HI.bind h
        refine wp_iaload dL_law_244 ev32 ?_
        obtain ⟨v34, ev34, h⟩ := HI.bind h
        obtain ⟨v33, ev33, h⟩ := HI.bind h
        refine cgV_i (Y' := Y_X6_person) (kc2 := 258) (ks2 := 2584) dL_law_245 ml_L_31 ce_X6_person (t := 6) rfl (by decide) ⟨(Nat.le_of_ble_eq_true rfl), (Nat.le_of_ble_eq_true rfl)⟩ ⟨(Nat.le_of_ble_eq_true rfl), (Nat.le_of_ble_eq_true rfl)⟩ rfl rfl (chkT_eq ev34) (ct_X6_person ev33) rfl rfl (Nat.le_of_ble_eq_true rfl) ?_
        refine wp_aload_n (i := 2) dL_law_248 rfl rfl ?_
        refine wp_aload_n (i := 0) dL_law_249 rfl rfl ?_
        refine wp_iload_n (i := 3) dL_law_250 rfl rfl ?_
        refine wp_iconst (v := 1) dL_law_251 (by decide) ?_
        refine wp_iadd dL_law_252 ?_
        obtain ⟨v35, ev35, h⟩ := HI.bind h
        refine wp_iaload dL_law_253 ev35 ?_
        refine wp_aload_n (i := 0) dL_law_254 rfl rfl ?_
        refine wp_iload_n (i := 3) dL_law_255 rfl rfl ?_
        refine wp_iconst (v := 2) dL_law_256 (by decide) ?_
        refine wp_iadd dL_law_257 ?_
        obtain ⟨v36, ev36, h⟩ := HI.bind h
        refine wp_iaload dL_law_258 ev36 ?_
        obtain ⟨v38, ev38, h⟩ := HI.bind h
        obtain ⟨v37, ev37, h⟩ := HI.bind h
        refine cgV_i (Y' := Y_X7_person) (kc2 := 258) (ks2 := 2584) dL_law_259 ml_L_35 ce_X7_person (t := 7) rfl (by decide) ⟨(Nat.le_of_ble_eq_true rfl), (Nat.le_of_ble_eq_true rfl)⟩ ⟨(Nat.le_of_ble_eq_true rfl), (Nat.le_of_ble_eq_true rfl)⟩ rfl rfl (chkT_eq ev38) (ct_X7_person ev37) rfl rfl (Nat.le_of_ble_eq_true rfl) ?_
        refine wp_icmp_eq (tgt := 1005) dL_law_262 (by decide) (fun c39 => ?_) (fun c39 => ?_)
        · have h := HI.t c39 h
          exact (w_L_law_1005 ih h)
        · have h := HI.f c39 h
          refine wp_iconst (v := 0) dL_law_265 (by decide) ?_
          exact wp_iret dL_law_266 rfl (by decide) (Nat.le_of_ble_eq_true rfl) (Nat.le_of_ble_eq_true rfl) (HI.some h)
      have h := HI.f c30 h
      by_cases c40 : (v3 &&& (31 : Int32)) = 5
      · have h := HI.t c40 h
        refine wp_tsIn (tgt := 267) (v := 5) (z := 5) (off := 234) dL_law_33 c40 (by decide) (by decide) (by decide) (by decide) (by decide) ?_
        refine wp_aload_n (i := 1) dL_law_267 rfl rfl ?_
        refine wp_aload_n (i := 0) dL_law_268 rfl rfl ?_
        refine wp_iload_n (i := 3) dL_law_269 rfl rfl ?_
        refine wp_iconst (v := 1) dL_law_270 (by decide) ?_
        refine wp_iadd dL_law_271 ?_
        obtain ⟨v41, ev41, h⟩ := HI.bind h
        refine wp_iaload dL_law_272 ev41 ?_
        refine wp_aload_n (i := 0) dL_law_273 rfl rfl ?_
        refine wp_iload_n (i := 3) dL_law_274 rfl rfl ?_
        refine wp_iconst (v := 2) dL_law_275 (by decide) ?_
        refine wp_iadd dL_law_276 ?_
        obtain ⟨v42, ev42, h⟩ := HI.bind h
        refine wp_iaload dL_law_277 ev42 ?_
        obtain ⟨v44, ev44, h⟩ := HI.bind h
        obtain ⟨v43, ev43, h⟩ := HI.bind h
        refine cgV_i (Y' := Y_X6_near) (kc2 := 258) (ks2 := 2584) dL_law_278 ml_L_36 ce_X6_near (t := 6) rfl (by decide) ⟨(Nat.le_of_ble_eq_true rfl), (Nat.le_of_ble_eq_true rfl)⟩ ⟨(Nat.le_of_ble_eq_true rfl), (Nat.le_of_ble_eq_true rfl)⟩ rfl rfl (chkT_eq ev44) (ct_X6_near ev43) rfl rfl (Nat.le_of_ble_eq_true rfl) ?_
        refine wp_aload_n (i := 2) dL_law_281 rfl rfl ?_
        refine wp_aload_n (i := 0) dL_law_282 rfl rfl ?_
        refine wp_iload_n (i := 3) dL_law_283 rfl rfl ?_
        refine wp_iconst (v := 1) dL_law_284 (by decide) ?_
        refine wp_iadd dL_law_285 ?_
        obtain ⟨v45, ev45, h⟩ := HI.bind h
        refine wp_iaload dL_law_286 ev45 ?_
        refine wp_aload_n (i := 0) dL_law_287 rfl rfl ?_
        refine wp_iload_n (i := 3) dL_law_288 rfl rfl ?_
        refine wp_iconst (v := 2) dL_law_289 (by decide) ?_
        refine wp_iadd dL_law_290 ?_
        obtain ⟨v46, ev46, h⟩ := HI.bind h
        refine wp_iaload dL_law_291 ev46 ?_
        obtain ⟨v48, ev48, h⟩ := HI.bind h
        obtain ⟨v47, ev47, h⟩ := HI.bind h
        refine cgV_i (Y' := Y_X7_near) (kc2 := 258) (ks2 := 2584) dL_law_292 ml_L_39 ce_X7_near (t := 7) rfl (by decide) ⟨(Nat.le_of_ble_eq_true rfl), (Nat.le_of_ble_eq_true rfl)⟩ ⟨(Nat.le_of_ble_eq_true rfl), (Nat.le_of_ble_eq_true rfl)⟩ rfl rfl (chkT_eq ev48) (ct_X7_near ev47) rfl rfl (Nat.le_of_ble_eq_true rfl) ?_
        refine wp_icmp_eq (tgt := 1005) dL_law_295 (by decide) (fun c49 => ?_) (fun c49 => ?_)
        · have h := HI.t c49 h
          exact (w_L_law_1005 ih h)
        · have h := HI.f c49 h
          refine wp_iconst (v := 0) dL_law_298 (by decide) ?_
          exact wp_iret dL_law_299 rfl (by decide) (Nat.le_of_ble_eq_true rfl) (Nat.le_of_ble_eq_true rfl) (HI.some h)
      have h := HI.f c40 h
      by_cases c50 : (v3 &&& (31 : Int32)) = 6
      · have h := HI.t c50 h
        refine wp_tsIn (tgt := 300) (v := 6) (z := 6) (off := 267) dL_law_33 c50 (by decide) (by decide) (by decide) (by decide) (by decide) ?_
        refine wp_aload_n (i := 1) dL_law_300 rfl rfl ?_
        refine wp_aload_n (i := 0) dL_law_301 rfl rfl ?_
        refine wp_iload_n (i := 3) dL_law_302 rfl rfl ?_
        refine wp_iconst (v := 1) dL_law_303 (by decide) ?_
        refine wp_iadd dL_law_304 ?_
        obtain ⟨v51, ev51, h⟩ := HI.bind h
        refine wp_iaload dL_law_305 ev51 ?_
        obtain ⟨v53, ev53, h⟩ := HI.bind h
        obtain ⟨v52, ev52, h⟩ := HI.bind h
        refine cgV_i (Y' := Y_X6_about) (kc2 := 258) (ks2 := 2584) dL_law_306 ml_L_40 ce_X6_about (t := 6) rfl (by decide) ⟨(Nat.le_of_ble_eq_true rfl), (Nat.le_of_ble_eq_true rfl)⟩ ⟨(Nat.le_of_ble_eq_true rfl), (Nat.le_of_ble_eq_true rfl)⟩ rfl rfl (chkT_eq ev53) (ct_X6_about ev52) rfl rfl (Nat.le_of_ble_eq_true rfl) ?_
        refine wp_aload_n (i := 2) dL_law_309 rfl rfl ?_
        refine wp_aload_n (i := 0) dL_law_310 rfl rfl ?_
        refine wp_iload_n (i := 3) dL_law_311 rfl rfl ?_
        refine wp_iconst (v := 1) dL_law_312 (by decide) ?_
        refine wp_iadd dL_law_313 ?_
        obtain ⟨v54, ev54, h⟩ := HI.bind h
        refine wp_iaload dL_law_314 ev54 ?_
        obtain ⟨v56, ev56, h⟩ := HI.bind h
        obtain ⟨v55, ev55, h⟩ := HI.bind h
        refine cgV_i (Y' := Y_X7_about) (kc2 := 258) (ks2 := 2584) dL_law_315 ml_L_43 ce_X7_about (t := 7) rfl (by decide) ⟨(Nat.le_of_ble_eq_true rfl), (Nat.le_of_ble_eq_true rfl)⟩ ⟨(Nat.le_of_ble_eq_true rfl), (Nat.le_of_ble_eq_true rfl)⟩ rfl rfl (chkT_eq ev56) (ct_X7_about ev55) rfl rfl (Nat.le_of_ble_eq_true rfl) ?_
        refine wp_icmp_eq (tgt := 1005) dL_law_318 (by decide) (fun c57 => ?_) (fun c57 => ?_)
        · have h := HI.t c57 h
          exact (w_L_law_1005 ih h)
        · have h := HI.f c57 h
          refine wp_iconst (v := 0) dL_law_321 (by decide) ?_
          exact wp_iret dL_law_322 rfl (by decide) (Nat.le_of_ble_eq_true rfl) (Nat.le_of_ble_eq_true rfl) (HI.some h)
      have h := HI.f c50 h
      by_cases c58 : (v3 &&& (31 : Int32)) = 7
      · have h := HI.t c58 h
        refine wp_tsIn (tgt := 323) (v := 7) (z := 7) (off := 290) dL_law_33 c58 (by decide) (by decide) (by decide) (by decide) (by decide) ?_
        refine wp_aload_n (i := 1) dL_law_323 rfl rfl ?_
        refine wp_aload_n (i := 0) dL_law_324 rfl rfl ?_
        refine wp_iload_n (i := 3) dL_law_325 rfl rfl ?_
        refine wp_iconst (v := 1) dL_law_326 (by decide) ?_
        refine wp_iadd dL_law_327 ?_
        obtain ⟨v59, ev59, h⟩ := HI.bind h
        refine wp_iaload dL_law_328 ev59 ?_
        obtain ⟨v61, ev61, h⟩ := HI.bind h
        obtain ⟨v60, ev60, h⟩ := HI.bind h
        refine cgV_i (Y' := Y_X6_pass) (kc2 := 258) (ks2 := 2584) dL_law_329 ml_L_44 ce_X6_pass (t := 6) rfl (by decide) ⟨(Nat.le_of_ble_eq_true rfl), (Nat.le_of_ble_eq_true rfl)⟩ ⟨(Nat.le_of_ble_eq_true rfl), (Nat.le_of_ble_eq_true rfl)⟩ rfl rfl (chkT_eq ev61) (ct_X6_pass ev60) rfl rfl (Nat.le_of_ble_eq_true rfl) ?_
        refine wp_aload_n (i := 2) dL_law_332 rfl rfl ?_
        refine wp_aload_n (i := 0) dL_law_333 rfl rfl ?_
        refine wp_iload_n (i := 3) dL_law_334 rfl rfl ?_
        refine wp_iconst (v := 1) dL_law_335 (by decide) ?_
        refine wp_iadd dL_law_336 ?_
        obtain ⟨v62, ev62, h⟩ := HI.bind h
        refine wp_iaload dL_law_337 ev62 ?_
        obtain ⟨v64, ev64, h⟩ := HI.bind h
        obtain ⟨v63, ev63, h⟩ := HI.bind h
        refine cgV_i (Y' := Y_X7_pass) (kc2 := 258) (ks2 := 2584) dL_law_338 ml_L_47 ce_X7_pass (t := 7) rfl (by decide) ⟨(Nat.le_of_ble_eq_true rfl), (Nat.le_of_ble_eq_true rfl)⟩ ⟨(Nat.le_of_ble_eq_true rfl), (Nat.le_of_ble_eq_true rfl)⟩ rfl rfl (chkT_eq ev64) (ct_X7_pass ev63) rfl rfl (Nat.le_of_ble_eq_true rfl) ?_
        refine wp_icmp_eq (tgt := 1005) dL_law_341 (by decide) (fun c65 => ?_) (fun c65 => ?_)
        · have h := HI.t c65 h
          exact (w_L_law_1005 ih h)
        · have h := HI.f c65 h
          refine wp_iconst (v := 0) dL_law_344 (by decide) ?_
          exact wp_iret dL_law_345 rfl (by decide) (Nat.le_of_ble_eq_true rfl) (Nat.le_of_ble_eq_true rfl) (HI.some h)
      have h := HI.f c58 h
      by_cases c66 : (v3 &&& (31 : Int32)) = 8
      · have h := HI.t c66 h
        refine wp_tsIn (tgt := 346) (v := 8) (z := 8) (off := 313) dL_law_33 c66 (by decide) (by decide) (by decide) (by decide) (by decide) ?_
        refine wp_aload_n (i := 1) dL_law_346 rfl rfl ?_
        refine wp_aload_n (i := 0) dL_law_347 rfl rfl ?_
        refine wp_iload_n (i := 3) dL_law_348 rfl rfl ?_
        refine wp_iconst (v := 1) dL_law_349 (by decide) ?_
        refine wp_iadd dL_law_350 ?_
        obtain ⟨v67, ev67, h⟩ := HI.bind h
        refine wp_iaload dL_law_351 ev67 ?_
        refine wp_aload_n (i := 0) dL_law_352 rfl rfl ?_
        refine wp_iload_n (i := 3) dL_law_353 rfl rfl ?_
        refine wp_iconst (v := 2) dL_law_354 (by decide) ?_
        refine wp_iadd dL_law_355 ?_
        obtain ⟨v68, ev68, h⟩ := HI.bind h
        refine wp_iaload dL_law_356 ev68 ?_
        refine wp_aload_n (i := 0) dL_law_357 rfl rfl ?_
        refine wp_iload_n (i := 3) dL_law_358 rfl rfl ?_
        refine wp_iconst (v := 3) dL_law_359 (by decide) ?_
        refine wp_iadd dL_law_360 ?_
        obtain ⟨v69, ev69, h⟩ := HI.bind h
        refine wp_iaload dL_law_361 ev69 ?_
        obtain ⟨v71, ev71, h⟩ := HI.bind h
        obtain ⟨v70, ev70, h⟩ := HI.bind h
        refine cgV_i (Y' := Y_X6_weave) (kc2 := 258) (ks2 := 2584) dL_law_362 ml_L_48 ce_X6_weave (t := 6) rfl (by decide) ⟨(Nat.le_of_ble_eq_true rfl), (Nat.le_of_ble_eq_true rfl)⟩ ⟨(Nat.le_of_ble_eq_true rfl), (Nat.le_of_ble_eq_true rfl)⟩ rfl rfl (chkT_eq ev71) (ct_X6_weave ev70) rfl rfl (Nat.le_of_ble_eq_true rfl) ?_
        refine wp_aload_n (i := 2) dL_law_365 rfl rfl ?_
        refine wp_aload_n (i := 0) dL_law_366 rfl rfl ?_
        refine wp_iload_n (i := 3) dL_law_367 rfl rfl ?_
        refine wp_iconst (v := 1) dL_law_368 (by decide) ?_
        refine wp_iadd dL_law_369 ?_
        obtain ⟨v72, ev72, h⟩ := HI.bind h
        refine wp_iaload dL_law_370 ev72 ?_
        refine wp_aload_n (i := 0) dL_law_371 rfl rfl ?_
        refine wp_iload_n (i := 3) dL_law_372 rfl rfl ?_
        refine wp_iconst (v := 2) dL_law_373 (by decide) ?_
        refine wp_iadd dL_law_374 ?_
        obtain ⟨v73, ev73, h⟩ := HI.bind h
        refine wp_iaload dL_law_375 ev73 ?_
        refine wp_aload_n (i := 0) dL_law_376 rfl rfl ?_
        refine wp_iload_n (i := 3) dL_law_377 rfl rfl ?_
        refine wp_iconst (v := 3) dL_law_378 (by decide) ?_
        refine wp_iadd dL_law_379 ?_
        obtain ⟨v74, ev74, h⟩ := HI.bind h
        refine wp_iaload dL_law_380 ev74 ?_
        obtain ⟨v76, ev76, h⟩ := HI.bind h
        obtain ⟨v75, ev75, h⟩ := HI.bind h
        refine cgV_i (Y' := Y_X7_weave) (kc2 := 258) (ks2 := 2584) dL_law_381 ml_L_52 ce_X7_weave (t := 7) rfl (by decide) ⟨(Nat.le_of_ble_eq_true rfl), (Nat.le_of_ble_eq_true rfl)⟩ ⟨(Nat.le_of_ble_eq_true rfl), (Nat.le_of_ble_eq_true rfl)⟩ rfl rfl (chkT_eq ev76) (ct_X7_weave ev75) rfl rfl (Nat.le_of_ble_eq_true rfl) ?_
        refine wp_icmp_eq (tgt := 1005) dL_law_384 (by decide) (fun c77 => ?_) (fun c77 => ?_)
        · have h := HI.t c77 h
          exact (w_L_law_1005 ih h)
        · have h := HI.f c77 h
          refine wp_iconst (v := 0) dL_law_387 (by decide) ?_
          exact wp_iret dL_law_388 rfl (by decide) (Nat.le_of_ble_eq_true rfl) (Nat.le_of_ble_eq_true rfl) (HI.some h)
      have h := HI.f c66 h
      by_cases c78 : (v3 &&& (31 : Int32)) = 9
      · have h := HI.t c78 h
        refine wp_tsIn (tgt := 389) (v := 9) (z := 9) (off := 356) dL_law_33 c78 (by decide) (by decide) (by decide) (by decide) (by decide) ?_
        refine wp_aload_n (i := 1) dL_law_389 rfl rfl ?_
        refine wp_aload_n (i := 0) dL_law_390 rfl rfl ?_
        refine wp_iload_n (i := 3) dL_law_391 rfl rfl ?_
        refine wp_iconst (v := 1) dL_law_392 (by decide) ?_
        refine wp_iadd dL_law_393 ?_
        obtain ⟨v79, ev79, h⟩ := HI.bind h
        refine wp_iaload dL_law_394 ev79 ?_
        obtain ⟨v81, ev81, h⟩ := HI.bind h
        obtain ⟨v80, ev80, h⟩ := HI.bind h
        refine cgV_i (Y' := Y_X6_off) (kc2 := 258) (ks2 := 2584) dL_law_395 ml_L_53 ce_X6_off (t := 6) rfl (by decide) ⟨(Nat.le_of_ble_eq_true rfl), (Nat.le_of_ble_eq_true rfl)⟩ ⟨(Nat.le_of_ble_eq_true rfl), (Nat.le_of_ble_eq_true rfl)⟩ rfl rfl (chkT_eq ev81) (ct_X6_off ev80) rfl rfl (Nat.le_of_ble_eq_true rfl) ?_
        refine wp_aload_n (i := 2) dL_law_398 rfl rfl ?_
        refine wp_aload_n (i := 0) dL_law_399 rfl rfl ?_
        refine wp_iload_n (i := 3) dL_law_400 rfl rfl ?_
        refine wp_iconst (v := 1) dL_law_401 (by decide) ?_
        refine wp_iadd dL_law_402 ?_
        obtain ⟨v82, ev82, h⟩ := HI.bind h
        refine wp_iaload dL_law_403 ev82 ?_
        obtain ⟨v84, ev84, h⟩ := HI.bind h
        obtain ⟨v83, ev83, h⟩ := HI.bind h
        refine cgV_i (Y' := Y_X7_off) (kc2 := 258) (ks2 := 2584) dL_law_404 ml_L_56 ce_X7_off (t := 7) rfl (by decide) ⟨(Nat.le_of_ble_eq_true rfl), (Nat.le_of_ble_eq_true rfl)⟩ ⟨(Nat.le_of_ble_eq_true rfl), (Nat.le_of_ble_eq_true rfl)⟩ rfl rfl (chkT_eq ev84) (ct_X7_off ev83) rfl rfl (Nat.le_of_ble_eq_true rfl) ?_
        refine wp_icmp_eq (tgt := 1005) dL_law_407 (by decide) (fun c85 => ?_) (fun c85 => ?_)
        · have h := HI.t c85 h
          exact (w_L_law_1005 ih h)
        · have h := HI.f c85 h
          refine wp_iconst (v := 0) dL_law_410 (by decide) ?_
          exact wp_iret dL_law_411 rfl (by decide) (Nat.le_of_ble_eq_true rfl) (Nat.le_of_ble_eq_true rfl) (HI.some h)
      have h := HI.f c78 h
      by_cases c86 : (v3 &&& (31 : Int32)) = 10
      · have h := HI.t c86 h
        refine wp_tsIn (tgt := 412) (v := 10) (z := 10) (off := 379) dL_law_33 c86 (by decide) (by decide) (by decide) (by decide) (by decide) ?_
        refine wp_aload_n (i := 1) dL_law_412 rfl rfl ?_
        refine wp_aload_n (i := 0) dL_law_413 rfl rfl ?_
        refine wp_iload_n (i := 3) dL_law_414 rfl rfl ?_
        refine wp_iconst (v := 1) dL_law_415 (by decide) ?_
        refine wp_iadd dL_law_416 ?_
        obtain ⟨v87, ev87, h⟩ := HI.bind h
        refine wp_iaload dL_law_417 ev87 ?_
        refine wp_aload_n (i := 0) dL_law_418 rfl rfl ?_
        refine wp_iload_n (i := 3) dL_law_419 rfl rfl ?_
        refine wp_iconst (v := 2) dL_law_420 (by decide) ?_
        refine wp_iadd dL_law_421 ?_
        obtain ⟨v88, ev88, h⟩ := HI.bind h
        refine wp_iaload dL_law_422 ev88 ?_
        obtain ⟨v90, ev90, h⟩ := HI.bind h
        obtain ⟨v89, ev89, h⟩ := HI.bind h
        refine cgV_i (Y' := Y_X6_pace) (kc2 := 258) (ks2 := 2584) dL_law_423 ml_L_57 ce_X6_pace (t := 6) rfl (by decide) ⟨(Nat.le_of_ble_eq_true rfl), (Nat.le_of_ble_eq_true rfl)⟩ ⟨(Nat.le_of_ble_eq_true rfl), (Nat.le_of_ble_eq_true rfl)⟩ rfl rfl (chkT_eq ev90) (ct_X6_pace ev89) rfl rfl (Nat.le_of_ble_eq_true rfl) ?_
        refine wp_aload_n (i := 2) dL_law_426 rfl rfl ?_
        refine wp_aload_n (i := 0) dL_law_427 rfl rfl ?_
        refine wp_iload_n (i := 3) dL_law_428 rfl rfl ?_
        refine wp_iconst (v := 1) dL_law_429 (by decide) ?_
        refine wp_iadd dL_law_430 ?_
        obtain ⟨v91, ev91, h⟩ := HI.bind h
        refine wp_iaload dL_law_431 ev91 ?_
        refine wp_aload_n (i := 0) dL_law_432 rfl rfl ?_
        refine wp_iload_n (i := 3) dL_law_433 rfl rfl ?_
        refine wp_iconst (v := 2) dL_law_434 (by decide) ?_
        refine wp_iadd dL_law_435 ?_
        obtain ⟨v92, ev92, h⟩ := HI.bind h
        refine wp_iaload dL_law_436 ev92 ?_
        obtain ⟨v94, ev94, h⟩ := HI.bind h
        obtain ⟨v93, ev93, h⟩ := HI.bind h
        refine cgV_i (Y' := Y_X7_pace) (kc2 := 258) (ks2 := 2584) dL_law_437 ml_L_60 ce_X7_pace (t := 7) rfl (by decide) ⟨(Nat.le_of_ble_eq_true rfl), (Nat.le_of_ble_eq_true rfl)⟩ ⟨(Nat.le_of_ble_eq_true rfl), (Nat.le_of_ble_eq_true rfl)⟩ rfl rfl (chkT_eq ev94) (ct_X7_pace ev93) rfl rfl (Nat.le_of_ble_eq_true rfl) ?_
        refine wp_icmp_eq (tgt := 1005) dL_law_440 (by decide) (fun c95 => ?_) (fun c95 => ?_)
        · have h := HI.t c95 h
          exact (w_L_law_1005 ih h)
        · have h := HI.f c95 h
          refine wp_iconst (v := 0) dL_law_443 (by decide) ?_
          exact wp_iret dL_law_444 rfl (by decide) (Nat.le_of_ble_eq_true rfl) (Nat.le_of_ble_eq_true rfl) (HI.some h)
      have h := HI.f c86 h
      by_cases c96 : (v3 &&& (31 : Int32)) = 11
      · have h := HI.t c96 h
        refine wp_tsIn (tgt := 445) (v := 11) (z := 11) (off := 412) dL_law_33 c96 (by decide) (by decide) (by decide) (by decide) (by decide) ?_
        refine wp_aload_n (i := 1) dL_law_445 rfl rfl ?_
        obtain ⟨v98, ev98, h⟩ := HI.bind h
        obtain ⟨v97, ev97, h⟩ := HI.bind h
        refine cgV_i (Y' := Y_X6_undo) (kc2 := 258) (ks2 := 2584) dL_law_446 ml_L_61 ce_X6_undo (t := 6) rfl (by decide) ⟨(Nat.le_of_ble_eq_true rfl), (Nat.le_of_ble_eq_true rfl)⟩ ⟨(Nat.le_of_ble_eq_true rfl), (Nat.le_of_ble_eq_true rfl)⟩ rfl rfl (chkT_eq ev98) (ct_X6_undo ev97) rfl rfl (Nat.le_of_ble_eq_true rfl) ?_
        refine wp_aload_n (i := 2) dL_law_449 rfl rfl ?_
        obtain ⟨v100, ev100, h⟩ := HI.bind h
        obtain ⟨v99, ev99, h⟩ := HI.bind h
        refine cgV_i (Y' := Y_X7_undo) (kc2 := 258) (ks2 := 2584) dL_law_450 ml_L_64 ce_X7_undo (t := 7) rfl (by decide) ⟨(Nat.le_of_ble_eq_true rfl), (Nat.le_of_ble_eq_true rfl)⟩ ⟨(Nat.le_of_ble_eq_true rfl), (Nat.le_of_ble_eq_true rfl)⟩ rfl rfl (chkT_eq ev100) (ct_X7_undo ev99) rfl rfl (Nat.le_of_ble_eq_true rfl) ?_
        refine wp_icmp_eq (tgt := 1005) dL_law_453 (by decide) (fun c101 => ?_) (fun c101 => ?_)
        · have h := HI.t c101 h
          exact (w_L_law_1005 ih h)
        · have h := HI.f c101 h
          refine wp_iconst (v := 0) dL_law_456 (by decide) ?_
          exact wp_iret dL_law_457 rfl (by decide) (Nat.le_of_ble_eq_true rfl) (Nat.le_of_ble_eq_true rfl) (HI.some h)
      have h := HI.f c96 h
      by_cases c102 : (v3 &&& (31 : Int32)) = 12
      · have h := HI.t c102 h
        refine wp_tsIn (tgt := 458) (v := 12) (z := 12) (off := 425) dL_law_33 c102 (by decide) (by decide) (by decide) (by decide) (by decide) ?_
        refine wp_aload_n (i := 1) dL_law_458 rfl rfl ?_
        refine wp_aload_n (i := 0) dL_law_459 rfl rfl ?_
        refine wp_iload_n (i := 3) dL_law_460 rfl rfl ?_
        refine wp_iconst (v := 1) dL_law_461 (by decide) ?_
        refine wp_iadd dL_law_462 ?_
        obtain ⟨v103, ev103, h⟩ := HI.bind h
        refine wp_iaload dL_law_463 ev103 ?_
        refine wp_aload_n (i := 0) dL_law_464 rfl rfl ?_
        refine wp_iload_n (i := 3) dL_law_465 rfl rfl ?_
        refine wp_iconst (v := 2) dL_law_466 (by decide) ?_
        refine wp_iadd dL_law_467 ?_
        obtain ⟨v104, ev104, h⟩ := HI.bind h
        refine wp_iaload dL_law_468 ev104 ?_
        obtain ⟨v106, ev106, h⟩ := HI.bind h
        obtain ⟨v105, ev105, h⟩ := HI.bind h
        refine cgV_i (Y' := Y_X6_behind) (kc2 := 258) (ks2 := 2584) dL_law_469 ml_L_65 ce_X6_behind (t := 6) rfl (by decide) ⟨(Nat.le_of_ble_eq_true rfl), (Nat.le_of_ble_eq_true rfl)⟩ ⟨(Nat.le_of_ble_eq_true rfl), (Nat.le_of_ble_eq_true rfl)⟩ rfl rfl (chkT_eq ev106) (ct_X6_behind ev105) rfl rfl (Nat.le_of_ble_eq_true rfl) ?_
        refine wp_aload_n (i := 2) dL_law_472 rfl rfl ?_
        refine wp_aload_n (i := 0) dL_law_473 rfl rfl ?_
        refine wp_iload_n (i := 3) dL_law_474 rfl rfl ?_
        refine wp_iconst (v := 1) dL_law_475 (by decide) ?_
        refine wp_iadd dL_law_476 ?_
        obtain ⟨v107, ev107, h⟩ := HI.bind h
        refine wp_iaload dL_law_477 ev107 ?_
        refine wp_aload_n (i := 0) dL_law_478 rfl rfl ?_
        refine wp_iload_n (i := 3) dL_law_479 rfl rfl ?_
        refine wp_iconst (v := 2) dL_law_480 (by decide) ?_
        refine wp_iadd dL_law_481 ?_
        obtain ⟨v108, ev108, h⟩ := HI.bind h
        refine wp_iaload dL_law_482 ev108 ?_
        obtain ⟨v110, ev110, h⟩ := HI.bind h
        obtain ⟨v109, ev109, h⟩ := HI.bind h
        refine cgV_i (Y' := Y_X7_behind) (kc2 := 258) (ks2 := 2584) dL_law_483 ml_L_68 ce_X7_behind (t := 7) rfl (by decide) ⟨(Nat.le_of_ble_eq_true rfl), (Nat.le_of_ble_eq_true rfl)⟩ ⟨(Nat.le_of_ble_eq_true rfl), (Nat.le_of_ble_eq_true rfl)⟩ rfl rfl (chkT_eq ev110) (ct_X7_behind ev109) rfl rfl (Nat.le_of_ble_eq_true rfl) ?_
        refine wp_icmp_eq (tgt := 1005) dL_law_486 (by decide) (fun c111 => ?_) (fun c111 => ?_)
        · have h := HI.t c111 h
          exact (w_L_law_1005 ih h)
        · have h := HI.f c111 h
          refine wp_iconst (v := 0) dL_law_489 (by decide) ?_
          exact wp_iret dL_law_490 rfl (by decide) (Nat.le_of_ble_eq_true rfl) (Nat.le_of_ble_eq_true rfl) (HI.some h)
      have h := HI.f c102 h
      by_cases c112 : (v3 &&& (31 : Int32)) = 13
      · have h := HI.t c112 h
        refine wp_tsIn (tgt := 491) (v := 13) (z := 13) (off := 458) dL_law_33 c112 (by decide) (by decide) (by decide) (by decide) (by decide) ?_
        refine wp_aload_n (i := 1) dL_law_491 rfl rfl ?_
        refine wp_aload_n (i := 0) dL_law_492 rfl rfl ?_
        refine wp_iload_n (i := 3) dL_law_493 rfl rfl ?_
        refine wp_iconst (v := 1) dL_law_494 (by decide) ?_
        refine wp_iadd dL_law_495 ?_
        obtain ⟨v113, ev113, h⟩ := HI.bind h
        refine wp_iaload dL_law_496 ev113 ?_
        refine wp_aload_n (i := 0) dL_law_497 rfl rfl ?_
        refine wp_iload_n (i := 3) dL_law_498 rfl rfl ?_
        refine wp_iconst (v := 2) dL_law_499 (by decide) ?_
        refine wp_iadd dL_law_500 ?_
        obtain ⟨v114, ev114, h⟩ := HI.bind h
        refine wp_iaload dL_law_501 ev114 ?_
        obtain ⟨v116, ev116, h⟩ := HI.bind h
        obtain ⟨v115, ev115, h⟩ := HI.bind h
        refine cgV_i (Y' := Y_X6_first) (kc2 := 258) (ks2 := 2584) dL_law_502 ml_L_69 ce_X6_first (t := 6) rfl (by decide) ⟨(Nat.le_of_ble_eq_true rfl), (Nat.le_of_ble_eq_true rfl)⟩ ⟨(Nat.le_of_ble_eq_true rfl), (Nat.le_of_ble_eq_true rfl)⟩ rfl rfl (chkT_eq ev116) (ct_X6_first ev115) rfl rfl (Nat.le_of_ble_eq_true rfl) ?_
        refine wp_aload_n (i := 2) dL_law_505 rfl rfl ?_
        refine wp_aload_n (i := 0) dL_law_506 rfl rfl ?_
        refine wp_iload_n (i := 3) dL_law_507 rfl rfl ?_
        refine wp_iconst (v := 1) dL_law_508 (by decide) ?_
        refine wp_iadd dL_law_509 ?_
        obtain ⟨v117, ev117, h⟩ := HI.bind h
        refine wp_iaload dL_law_510 ev117 ?_
        refine wp_aload_n (i := 0) dL_law_511 rfl rfl ?_
        refine wp_iload_n (i := 3) dL_law_512 rfl rfl ?_
        refine wp_iconst (v := 2) dL_law_513 (by decide) ?_
        refine wp_iadd dL_law_514 ?_
        obtain ⟨v118, ev118, h⟩ := HI.bind h
        refine wp_iaload dL_law_515 ev118 ?_
        obtain ⟨v120, ev120, h⟩ := HI.bind h
        obtain ⟨v119, ev119, h⟩ := HI.bind h
        refine cgV_i (Y' := Y_X7_first) (kc2 := 258) (ks2 := 2584) dL_law_516 ml_L_72 ce_X7_first (t := 7) rfl (by decide) ⟨(Nat.le_of_ble_eq_true rfl), (Nat.le_of_ble_eq_true rfl)⟩ ⟨(Nat.le_of_ble_eq_true rfl), (Nat.le_of_ble_eq_true rfl)⟩ rfl rfl (chkT_eq ev120) (ct_X7_first ev119) rfl rfl (Nat.le_of_ble_eq_true rfl) ?_
        refine wp_icmp_eq (tgt := 1005) dL_law_519 (by decide) (fun c121 => ?_) (fun c121 => ?_)
        · have h := HI.t c121 h
          exact (w_L_law_1005 ih h)
        · have h := HI.f c121 h
          refine wp_iconst (v := 0) dL_law_522 (by decide) ?_
          exact wp_iret dL_law_523 rfl (by decide) (Nat.le_of_ble_eq_true rfl) (Nat.le_of_ble_eq_true rfl) (HI.some h)
      have h := HI.f c112 h
      by_cases c122 : (v3 &&& (31 : Int32)) = 14
      · have h := HI.t c122 h
        refine wp_tsIn (tgt := 524) (v := 14) (z := 14) (off := 491) dL_law_33 c122 (by decide) (by decide) (by decide) (by decide) (by decide) ?_
        refine wp_aload_n (i := 1) dL_law_524 rfl rfl ?_
        refine wp_aload_n (i := 0) dL_law_525 rfl rfl ?_
        refine wp_iload_n (i := 3) dL_law_526 rfl rfl ?_
        refine wp_iconst (v := 1) dL_law_527 (by decide) ?_
        refine wp_iadd dL_law_528 ?_
        obtain ⟨v123, ev123, h⟩ := HI.bind h
        refine wp_iaload dL_law_529 ev123 ?_
        obtain ⟨v125, ev125, h⟩ := HI.bind h
        obtain ⟨v124, ev124, h⟩ := HI.bind h
        refine cgV_i (Y' := Y_X6_all) (kc2 := 258) (ks2 := 2584) dL_law_530 ml_L_73 ce_X6_all (t := 6) rfl (by decide) ⟨(Nat.le_of_ble_eq_true rfl), (Nat.le_of_ble_eq_true rfl)⟩ ⟨(Nat.le_of_ble_eq_true rfl), (Nat.le_of_ble_eq_true rfl)⟩ rfl rfl (chkT_eq ev125) (ct_X6_all ev124) rfl rfl (Nat.le_of_ble_eq_true rfl) ?_
        refine wp_aload_n (i := 2) dL_law_533 rfl rfl ?_
        refine wp_aload_n (i := 0) dL_law_534 rfl rfl ?_
        refine wp_iload_n (i := 3) dL_law_535 rfl rfl ?_
        refine wp_iconst (v := 1) dL_law_536 (by decide) ?_
        refine wp_iadd dL_law_537 ?_
        obtain ⟨v126, ev126, h⟩ := HI.bind h
        refine wp_iaload dL_law_538 ev126 ?_
        obtain ⟨v128, ev128, h⟩ := HI.bind h
        obtain ⟨v127, ev127, h⟩ := HI.bind h
        refine cgV_i (Y' := Y_X7_all) (kc2 := 258) (ks2 := 2584) dL_law_539 ml_L_76 ce_X7_all (t := 7) rfl (by decide) ⟨(Nat.le_of_ble_eq_true rfl), (Nat.le_of_ble_eq_true rfl)⟩ ⟨(Nat.le_of_ble_eq_true rfl), (Nat.le_of_ble_eq_true rfl)⟩ rfl rfl (chkT_eq ev128) (ct_X7_all ev127) rfl rfl (Nat.le_of_ble_eq_true rfl) ?_
        refine wp_icmp_eq (tgt := 1005) dL_law_542 (by decide) (fun c129 => ?_) (fun c129 => ?_)
        · have h := HI.t c129 h
          exact (w_L_law_1005 ih h)
        · have h := HI.f c129 h
          refine wp_iconst (v := 0) dL_law_545 (by decide) ?_
          exact wp_iret dL_law_546 rfl (by decide) (Nat.le_of_ble_eq_true rfl) (Nat.le_of_ble_eq_true rfl) (HI.some h)
      have h := HI.f c122 h
      by_cases c130 : (v3 &&& (31 : Int32)) = 15
      · have h := HI.t c130 h
        refine wp_tsIn (tgt := 547) (v := 15) (z := 15) (off := 514) dL_law_33 c130 (by decide) (by decide) (by decide) (by decide) (by decide) ?_
        refine wp_aload_n (i := 1) dL_law_547 rfl rfl ?_
        refine wp_aload_n (i := 0) dL_law_548 rfl rfl ?_
        refine wp_iload_n (i := 3) dL_law_549 rfl rfl ?_
        refine wp_iconst (v := 1) dL_law_550 (by decide) ?_
        refine wp_iadd dL_law_551 ?_
        obtain ⟨v131, ev131, h⟩ := HI.bind h
        refine wp_iaload dL_law_552 ev131 ?_
        refine wp_aload_n (i := 0) dL_law_553 rfl rfl ?_
        refine wp_iload_n (i := 3) dL_law_554 rfl rfl ?_
        refine wp_iconst (v := 2) dL_law_555 (by decide) ?_
        refine wp_iadd dL_law_556 ?_
        obtain ⟨v132, ev132, h⟩ := HI.bind h
        refine wp_iaload dL_law_557 ev132 ?_
        refine wp_aload_n (i := 0) dL_law_558 rfl rfl ?_
        refine wp_iload_n (i := 3) dL_law_559 rfl rfl ?_
        refine wp_iconst (v := 3) dL_law_560 (by decide) ?_
        refine wp_iadd dL_law_561 ?_
        obtain ⟨v133, ev133, h⟩ := HI.bind h
        refine wp_iaload dL_law_562 ev133 ?_
        obtain ⟨v135, ev135, h⟩ := HI.bind h
        obtain ⟨v134, ev134, h⟩ := HI.bind h
        refine cgV_i (Y' := Y_X6_paces) (kc2 := 258) (ks2 := 2584) dL_law_563 ml_L_77 ce_X6_paces (t := 6) rfl (by decide) ⟨(Nat.le_of_ble_eq_true rfl), (Nat.le_of_ble_eq_true rfl)⟩ ⟨(Nat.le_of_ble_eq_true rfl), (Nat.le_of_ble_eq_true rfl)⟩ rfl rfl (chkT_eq ev135) (ct_X6_paces ev134) rfl rfl (Nat.le_of_ble_eq_true rfl) ?_
        refine wp_aload_n (i := 2) dL_law_566 rfl rfl ?_
        refine wp_aload_n (i := 0) dL_law_567 rfl rfl ?_
        refine wp_iload_n (i := 3) dL_law_568 rfl rfl ?_
        refine wp_iconst (v := 1) dL_law_569 (by decide) ?_
        refine wp_iadd dL_law_570 ?_
        obtain ⟨v136, ev136, h⟩ := HI.bind h
        refine wp_iaload dL_law_571 ev136 ?_
        refine wp_aload_n (i := 0) dL_law_572 rfl rfl ?_
        refine wp_iload_n (i := 3) dL_law_573 rfl rfl ?_
        refine wp_iconst (v := 2) dL_law_574 (by decide) ?_
        refine wp_iadd dL_law_575 ?_
        obtain ⟨v137, ev137, h⟩ := HI.bind h
        refine wp_iaload dL_law_576 ev137 ?_
        refine wp_aload_n (i := 0) dL_law_577 rfl rfl ?_
        refine wp_iload_n (i := 3) dL_law_578 rfl rfl ?_
        refine wp_iconst (v := 3) dL_law_579 (by decide) ?_
        refine wp_iadd dL_law_580 ?_
        obtain ⟨v138, ev138, h⟩ := HI.bind h
        refine wp_iaload dL_law_581 ev138 ?_
        obtain ⟨v140, ev140, h⟩ := HI.bind h
        obtain ⟨v139, ev139, h⟩ := HI.bind h
        refine cgV_i (Y' := Y_X7_paces) (kc2 := 258) (ks2 := 2584) dL_law_582 ml_L_80 ce_X7_paces (t := 7) rfl (by decide) ⟨(Nat.le_of_ble_eq_true rfl), (Nat.le_of_ble_eq_true rfl)⟩ ⟨(Nat.le_of_ble_eq_true rfl), (Nat.le_of_ble_eq_true rfl)⟩ rfl rfl (chkT_eq ev140) (ct_X7_paces ev139) rfl rfl (Nat.le_of_ble_eq_true rfl) ?_
        refine wp_icmp_eq (tgt := 1005) dL_law_585 (by decide) (fun c141 => ?_) (fun c141 => ?_)
        · have h := HI.t c141 h
          exact (w_L_law_1005 ih h)
        · have h := HI.f c141 h
          refine wp_iconst (v := 0) dL_law_588 (by decide) ?_
          exact wp_iret dL_law_589 rfl (by decide) (Nat.le_of_ble_eq_true rfl) (Nat.le_of_ble_eq_true rfl) (HI.some h)
      have h := HI.f c130 h
      by_cases c142 : (v3 &&& (31 : Int32)) = 16
      · have h := HI.t c142 h
        refine wp_tsIn (tgt := 590) (v := 16) (z := 16) (off := 557) dL_law_33 c142 (by decide) (by decide) (by decide) (by decide) (by decide) ?_
        refine wp_aload_n (i := 1) dL_law_590 rfl rfl ?_
        refine wp_aload_n (i := 0) dL_law_591 rfl rfl ?_
        refine wp_iload_n (i := 3) dL_law_592 rfl rfl ?_
        refine wp_iconst (v := 1) dL_law_593 (by decide) ?_
        refine wp_iadd dL_law_594 ?_
        obtain ⟨v143, ev143, h⟩ := HI.bind h
        refine wp_iaload dL_law_595 ev143 ?_
        obtain ⟨v145, ev145, h⟩ := HI.bind h
        obtain ⟨v144, ev144, h⟩ := HI.bind h
        refine cgV_i (Y' := Y_X6_shy) (kc2 := 258) (ks2 := 2584) dL_law_596 ml_L_81 ce_X6_shy (t := 6) rfl (by decide) ⟨(Nat.le_of_ble_eq_true rfl), (Nat.le_of_ble_eq_true rfl)⟩ ⟨(Nat.le_of_ble_eq_true rfl), (Nat.le_of_ble_eq_true rfl)⟩ rfl rfl (chkT_eq ev145) (ct_X6_shy ev144) rfl rfl (Nat.le_of_ble_eq_true rfl) ?_
        refine wp_aload_n (i := 2) dL_law_599 rfl rfl ?_
        refine wp_aload_n (i := 0) dL_law_600 rfl rfl ?_
        refine wp_iload_n (i := 3) dL_law_601 rfl rfl ?_
        refine wp_iconst (v := 1) dL_law_602 (by decide) ?_
        refine wp_iadd dL_law_603 ?_
        obtain ⟨v146, ev146, h⟩ := HI.bind h
        refine wp_iaload dL_law_604 ev146 ?_
        obtain ⟨v148, ev148, h⟩ := HI.bind h
        obtain ⟨v147, ev147, h⟩ := HI.bind h
        refine cgV_i (Y' := Y_X7_shy) (kc2 := 258) (ks2 := 2584) dL_law_605 ml_L_84 ce_X7_shy (t := 7) rfl (by decide) ⟨(Nat.le_of_ble_eq_true rfl), (Nat.le_of_ble_eq_true rfl)⟩ ⟨(Nat.le_of_ble_eq_true rfl), (Nat.le_of_ble_eq_true rfl)⟩ rfl rfl (chkT_eq ev148) (ct_X7_shy ev147) rfl rfl (Nat.le_of_ble_eq_true rfl) ?_
        refine wp_icmp_eq (tgt := 1005) dL_law_608 (by decide) (fun c149 => ?_) (fun c149 => ?_)
        · have h := HI.t c149 h
          exact (w_L_law_1005 ih h)
        · have h := HI.f c149 h
          refine wp_iconst (v := 0) dL_law_611 (by decide) ?_
          exact wp_iret dL_law_612 rfl (by decide) (Nat.le_of_ble_eq_true rfl) (Nat.le_of_ble_eq_true rfl) (HI.some h)
      have h := HI.f c142 h
      by_cases c150 : (v3 &&& (31 : Int32)) = 17
      · have h := HI.t c150 h
        refine wp_tsIn (tgt := 613) (v := 17) (z := 17) (off := 580) dL_law_33 c150 (by decide) (by decide) (by decide) (by decide) (by decide) ?_
        refine wp_aload_n (i := 1) dL_law_613 rfl rfl ?_
        refine wp_aload_n (i := 0) dL_law_614 rfl rfl ?_
        refine wp_iload_n (i := 3) dL_law_615 rfl rfl ?_
        refine wp_iconst (v := 1) dL_law_616 (by decide) ?_
        refine wp_iadd dL_law_617 ?_
        obtain ⟨v151, ev151, h⟩ := HI.bind h
        refine wp_iaload dL_law_618 ev151 ?_
        refine wp_aload_n (i := 0) dL_law_619 rfl rfl ?_
        refine wp_iload_n (i := 3) dL_law_620 rfl rfl ?_
        refine wp_iconst (v := 2) dL_law_621 (by decide) ?_
        refine wp_iadd dL_law_622 ?_
        obtain ⟨v152, ev152, h⟩ := HI.bind h
        refine wp_iaload dL_law_623 ev152 ?_
        obtain ⟨v154, ev154, h⟩ := HI.bind h
        obtain ⟨v153, ev153, h⟩ := HI.bind h
        refine cgV_i (Y' := Y_X6_spread) (kc2 := 258) (ks2 := 2584) dL_law_624 ml_L_85 ce_X6_spread (t := 6) rfl (by decide) ⟨(Nat.le_of_ble_eq_true rfl), (Nat.le_of_ble_eq_true rfl)⟩ ⟨(Nat.le_of_ble_eq_true rfl), (Nat.le_of_ble_eq_true rfl)⟩ rfl rfl (chkT_eq ev154) (ct_X6_spread ev153) rfl rfl (Nat.le_of_ble_eq_true rfl) ?_
        refine wp_aload_n (i := 2) dL_law_627 rfl rfl ?_
        refine wp_aload_n (i := 0) dL_law_628 rfl rfl ?_
        refine wp_iload_n (i := 3) dL_law_629 rfl rfl ?_
        refine wp_iconst (v := 1) dL_law_630 (by decide) ?_
        refine wp_iadd dL_law_631 ?_
        obtain ⟨v155, ev155, h⟩ := HI.bind h
        refine wp_iaload dL_law_632 ev155 ?_
        refine wp_aload_n (i := 0) dL_law_633 rfl rfl ?_
        refine wp_iload_n (i := 3) dL_law_634 rfl rfl ?_
        refine wp_iconst (v := 2) dL_law_635 (by decide) ?_
        refine wp_iadd dL_law_636 ?_
        obtain ⟨v156, ev156, h⟩ := HI.bind h
        refine wp_iaload dL_law_637 ev156 ?_
        obtain ⟨v158, ev158, h⟩ := HI.bind h
        obtain ⟨v157, ev157, h⟩ := HI.bind h
        refine cgV_i (Y' := Y_X7_spread) (kc2 := 258) (ks2 := 2584) dL_law_638 ml_L_88 ce_X7_spread (t := 7) rfl (by decide) ⟨(Nat.le_of_ble_eq_true rfl), (Nat.le_of_ble_eq_true rfl)⟩ ⟨(Nat.le_of_ble_eq_true rfl), (Nat.le_of_ble_eq_true rfl)⟩ rfl rfl (chkT_eq ev158) (ct_X7_spread ev157) rfl rfl (Nat.le_of_ble_eq_true rfl) ?_
        refine wp_icmp_eq (tgt := 1005) dL_law_641 (by decide) (fun c159 => ?_) (fun c159 => ?_)
        · have h := HI.t c159 h
          exact (w_L_law_1005 ih h)
        · have h := HI.f c159 h
          refine wp_iconst (v := 0) dL_law_644 (by decide) ?_
          exact wp_iret dL_law_645 rfl (by decide) (Nat.le_of_ble_eq_true rfl) (Nat.le_of_ble_eq_true rfl) (HI.some h)
      have h := HI.f c150 h
      by_cases c160 : (v3 &&& (31 : Int32)) = 18
      · have h := HI.t c160 h
        refine wp_tsIn (tgt := 646) (v := 18) (z := 18) (off := 613) dL_law_33 c160 (by decide) (by decide) (by decide) (by decide) (by decide) ?_
        refine wp_aload_n (i := 1) dL_law_646 rfl rfl ?_
        refine wp_aload_n (i := 0) dL_law_647 rfl rfl ?_
        refine wp_iload_n (i := 3) dL_law_648 rfl rfl ?_
        refine wp_iconst (v := 1) dL_law_649 (by decide) ?_
        refine wp_iadd dL_law_650 ?_
        obtain ⟨v161, ev161, h⟩ := HI.bind h
        refine wp_iaload dL_law_651 ev161 ?_
        obtain ⟨v163, ev163, h⟩ := HI.bind h
        obtain ⟨v162, ev162, h⟩ := HI.bind h
        refine cgV_i (Y' := Y_X6_dear) (kc2 := 258) (ks2 := 2584) dL_law_652 ml_L_89 ce_X6_dear (t := 6) rfl (by decide) ⟨(Nat.le_of_ble_eq_true rfl), (Nat.le_of_ble_eq_true rfl)⟩ ⟨(Nat.le_of_ble_eq_true rfl), (Nat.le_of_ble_eq_true rfl)⟩ rfl rfl (chkT_eq ev163) (ct_X6_dear ev162) rfl rfl (Nat.le_of_ble_eq_true rfl) ?_
        refine wp_aload_n (i := 2) dL_law_655 rfl rfl ?_
        refine wp_aload_n (i := 0) dL_law_656 rfl rfl ?_
        refine wp_iload_n (i := 3) dL_law_657 rfl rfl ?_
        refine wp_iconst (v := 1) dL_law_658 (by decide) ?_
        refine wp_iadd dL_law_659 ?_
        obtain ⟨v164, ev164, h⟩ := HI.bind h
        refine wp_iaload dL_law_660 ev164 ?_
        obtain ⟨v166, ev166, h⟩ := HI.bind h
        obtain ⟨v165, ev165, h⟩ := HI.bind h
        refine cgV_i (Y' := Y_X7_dear) (kc2 := 258) (ks2 := 2584) dL_law_661 ml_L_92 ce_X7_dear (t := 7) rfl (by decide) ⟨(Nat.le_of_ble_eq_true rfl), (Nat.le_of_ble_eq_true rfl)⟩ ⟨(Nat.le_of_ble_eq_true rfl), (Nat.le_of_ble_eq_true rfl)⟩ rfl rfl (chkT_eq ev166) (ct_X7_dear ev165) rfl rfl (Nat.le_of_ble_eq_true rfl) ?_
        refine wp_icmp_eq (tgt := 1005) dL_law_664 (by decide) (fun c167 => ?_) (fun c167 => ?_)
        · have h := HI.t c167 h
          exact (w_L_law_1005 ih h)
        · have h := HI.f c167 h
          refine wp_iconst (v := 0) dL_law_667 (by decide) ?_
          exact wp_iret dL_law_668 rfl (by decide) (Nat.le_of_ble_eq_true rfl) (Nat.le_of_ble_eq_true rfl) (HI.some h)
      have h := HI.f c160 h
      by_cases c168 : (v3 &&& (31 : Int32)) = 19
      · have h := HI.t c168 h
        refine wp_tsIn (tgt := 669) (v := 19) (z := 19) (off := 636) dL_law_33 c168 (by decide) (by decide) (by decide) (by decide) (by decide) ?_
        refine wp_aload_n (i := 1) dL_law_669 rfl rfl ?_
        refine wp_aload_n (i := 0) dL_law_670 rfl rfl ?_
        refine wp_iload_n (i := 3) dL_law_671 rfl rfl ?_
        refine wp_iconst (v := 1) dL_law_672 (by decide) ?_
        refine wp_iadd dL_law_673 ?_
        obtain ⟨v169, ev169, h⟩ := HI.bind h
        refine wp_iaload dL_law_674 ev169 ?_
        refine wp_aload_n (i := 0) dL_law_675 rfl rfl ?_
        refine wp_iload_n (i := 3) dL_law_676 rfl rfl ?_
        refine wp_iconst (v := 2) dL_law_677 (by decide) ?_
        refine wp_iadd dL_law_678 ?_
        obtain ⟨v170, ev170, h⟩ := HI.bind h
        refine wp_iaload dL_law_679 ev170 ?_
        refine wp_aload_n (i := 0) dL_law_680 rfl rfl ?_
        refine wp_iload_n (i := 3) dL_law_681 rfl rfl ?_
        refine wp_iconst (v := 3) dL_law_682 (by decide) ?_
        refine wp_iadd dL_law_683 ?_
        obtain ⟨v171, ev171, h⟩ := HI.bind h
        refine wp_iaload dL_law_684 ev171 ?_
        obtain ⟨v173, ev173, h⟩ := HI.bind h
        obtain ⟨v172, ev172, h⟩ := HI.bind h
        refine cgV_i (Y' := Y_X6_seen) (kc2 := 258) (ks2 := 2584) dL_law_685 ml_L_93 ce_X6_seen (t := 6) rfl (by decide) ⟨(Nat.le_of_ble_eq_true rfl), (Nat.le_of_ble_eq_true rfl)⟩ ⟨(Nat.le_of_ble_eq_true rfl), (Nat.le_of_ble_eq_true rfl)⟩ rfl rfl (chkT_eq ev173) (ct_X6_seen ev172) rfl rfl (Nat.le_of_ble_eq_true rfl) ?_
        refine wp_aload_n (i := 2) dL_law_688 rfl rfl ?_
        refine wp_aload_n (i := 0) dL_law_689 rfl rfl ?_
        refine wp_iload_n (i := 3) dL_law_690 rfl rfl ?_
        refine wp_iconst (v := 1) dL_law_691 (by decide) ?_
        refine wp_iadd dL_law_692 ?_
        obtain ⟨v174, ev174, h⟩ := HI.bind h
        refine wp_iaload dL_law_693 ev174 ?_
        refine wp_aload_n (i := 0) dL_law_694 rfl rfl ?_
        refine wp_iload_n (i := 3) dL_law_695 rfl rfl ?_
        refine wp_iconst (v := 2) dL_law_696 (by decide) ?_
        refine wp_iadd dL_law_697 ?_
        obtain ⟨v175, ev175, h⟩ := HI.bind h
        refine wp_iaload dL_law_698 ev175 ?_
        refine wp_aload_n (i := 0) dL_law_699 rfl rfl ?_
        refine wp_iload_n (i := 3) dL_law_700 rfl rfl ?_
        refine wp_iconst (v := 3) dL_law_701 (by decide) ?_
        refine wp_iadd dL_law_702 ?_
        obtain ⟨v176, ev176, h⟩ := HI.bind h
        refine wp_iaload dL_law_703 ev176 ?_
        obtain ⟨v178, ev178, h⟩ := HI.bind h
        obtain ⟨v177, ev177, h⟩ := HI.bind h
        refine cgV_i (Y' := Y_X7_seen) (kc2 := 258) (ks2 := 2584) dL_law_704 ml_L_96 ce_X7_seen (t := 7) rfl (by decide) ⟨(Nat.le_of_ble_eq_true rfl), (Nat.le_of_ble_eq_true rfl)⟩ ⟨(Nat.le_of_ble_eq_true rfl), (Nat.le_of_ble_eq_true rfl)⟩ rfl rfl (chkT_eq ev178) (ct_X7_seen ev177) rfl rfl (Nat.le_of_ble_eq_true rfl) ?_
        refine wp_icmp_eq (tgt := 1005) dL_law_707 (by decide) (fun c179 => ?_) (fun c179 => ?_)
        · have h := HI.t c179 h
          exact (w_L_law_1005 ih h)
        · have h := HI.f c179 h
          refine wp_iconst (v := 0) dL_law_710 (by decide) ?_
          exact wp_iret dL_law_711 rfl (by decide) (Nat.le_of_ble_eq_true rfl) (Nat.le_of_ble_eq_true rfl) (HI.some h)
      have h := HI.f c168 h
      by_cases c180 : (v3 &&& (31 : Int32)) = 20
      · have h := HI.t c180 h
        refine wp_tsIn (tgt := 712) (v := 20) (z := 20) (off := 679) dL_law_33 c180 (by decide) (by decide) (by decide) (by decide) (by decide) ?_
        refine wp_aload_n (i := 1) dL_law_712 rfl rfl ?_
        refine wp_aload_n (i := 0) dL_law_713 rfl rfl ?_
        refine wp_iload_n (i := 3) dL_law_714 rfl rfl ?_
        refine wp_iconst (v := 1) dL_law_715 (by decide) ?_
        refine wp_iadd dL_law_716 ?_
        obtain ⟨v181, ev181, h⟩ := HI.bind h
        refine wp_iaload dL_law_717 ev181 ?_
        obtain ⟨v183, ev183, h⟩ := HI.bind h
        obtain ⟨v182, ev182, h⟩ := HI.bind h
        refine cgV_i (Y' := Y_X6_kinds) (kc2 := 258) (ks2 := 2584) dL_law_718 ml_L_97 ce_X6_kinds (t := 6) rfl (by decide) ⟨(Nat.le_of_ble_eq_true rfl), (Nat.le_of_ble_eq_true rfl)⟩ ⟨(Nat.le_of_ble_eq_true rfl), (Nat.le_of_ble_eq_true rfl)⟩ rfl rfl (chkT_eq ev183) (ct_X6_kinds ev182) rfl rfl (Nat.le_of_ble_eq_true rfl) ?_
        refine wp_aload_n (i := 2) dL_law_721 rfl rfl ?_
        refine wp_aload_n (i := 0) dL_law_722 rfl rfl ?_
        refine wp_iload_n (i := 3) dL_law_723 rfl rfl ?_
        refine wp_iconst (v := 1) dL_law_724 (by decide) ?_
        refine wp_iadd dL_law_725 ?_
        obtain ⟨v184, ev184, h⟩ := HI.bind h
        refine wp_iaload dL_law_726 ev184 ?_
        obtain ⟨v186, ev186, h⟩ := HI.bind h
        obtain ⟨v185, ev185, h⟩ := HI.bind h
        refine cgV_i (Y' := Y_X7_kinds) (kc2 := 258) (ks2 := 2584) dL_law_727 ml_L_100 ce_X7_kinds (t := 7) rfl (by decide) ⟨(Nat.le_of_ble_eq_true rfl), (Nat.le_of_ble_eq_true rfl)⟩ ⟨(Nat.le_of_ble_eq_true rfl), (Nat.le_of_ble_eq_true rfl)⟩ rfl rfl (chkT_eq ev186) (ct_X7_kinds ev185) rfl rfl (Nat.le_of_ble_eq_true rfl) ?_
        refine wp_icmp_eq (tgt := 1005) dL_law_730 (by decide) (fun c187 => ?_) (fun c187 => ?_)
        · have h := HI.t c187 h
          exact (w_L_law_1005 ih h)
        · have h := HI.f c187 h
          refine wp_iconst (v := 0) dL_law_733 (by decide) ?_
          exact wp_iret dL_law_734 rfl (by decide) (Nat.le_of_ble_eq_true rfl) (Nat.le_of_ble_eq_true rfl) (HI.some h)
      have h := HI.f c180 h
      by_cases c188 : (v3 &&& (31 : Int32)) = 21
      · have h := HI.t c188 h
        refine wp_tsIn (tgt := 735) (v := 21) (z := 21) (off := 702) dL_law_33 c188 (by decide) (by decide) (by decide) (by decide) (by decide) ?_
        refine wp_aload_n (i := 1) dL_law_735 rfl rfl ?_
        refine wp_aload_n (i := 0) dL_law_736 rfl rfl ?_
        refine wp_iload_n (i := 3) dL_law_737 rfl rfl ?_
        refine wp_iconst (v := 1) dL_law_738 (by decide) ?_
        refine wp_iadd dL_law_739 ?_
        obtain ⟨v189, ev189, h⟩ := HI.bind h
        refine wp_iaload dL_law_740 ev189 ?_
        obtain ⟨v191, ev191, h⟩ := HI.bind h
        obtain ⟨v190, ev190, h⟩ := HI.bind h
        refine cgV_i (Y' := Y_X6_speeds) (kc2 := 258) (ks2 := 2584) dL_law_741 ml_L_101 ce_X6_speeds (t := 6) rfl (by decide) ⟨(Nat.le_of_ble_eq_true rfl), (Nat.le_of_ble_eq_true rfl)⟩ ⟨(Nat.le_of_ble_eq_true rfl), (Nat.le_of_ble_eq_true rfl)⟩ rfl rfl (chkT_eq ev191) (ct_X6_speeds ev190) rfl rfl (Nat.le_of_ble_eq_true rfl) ?_
        refine wp_aload_n (i := 2) dL_law_744 rfl rfl ?_
        refine wp_aload_n (i := 0) dL_law_745 rfl rfl ?_
        refine wp_iload_n (i := 3) dL_law_746 rfl rfl ?_
        refine wp_iconst (v := 1) dL_law_747 (by decide) ?_
        refine wp_iadd dL_law_748 ?_
        obtain ⟨v192, ev192, h⟩ := HI.bind h
        refine wp_iaload dL_law_749 ev192 ?_
        obtain ⟨v194, ev194, h⟩ := HI.bind h
        obtain ⟨v193, ev193, h⟩ := HI.bind h
        refine cgV_i (Y' := Y_X7_speeds) (kc2 := 258) (ks2 := 2584) dL_law_750 ml_L_104 ce_X7_speeds (t := 7) rfl (by decide) ⟨(Nat.le_of_ble_eq_true rfl), (Nat.le_of_ble_eq_true rfl)⟩ ⟨(Nat.le_of_ble_eq_true rfl), (Nat.le_of_ble_eq_true rfl)⟩ rfl rfl (chkT_eq ev194) (ct_X7_speeds ev193) rfl rfl (Nat.le_of_ble_eq_true rfl) ?_
        refine wp_icmp_eq (tgt := 1005) dL_law_753 (by decide) (fun c195 => ?_) (fun c195 => ?_)
        · have h := HI.t c195 h
          exact (w_L_law_1005 ih h)
        · have h := HI.f c195 h
          refine wp_iconst (v := 0) dL_law_756 (by decide) ?_
          exact wp_iret dL_law_757 rfl (by decide) (Nat.le_of_ble_eq_true rfl) (Nat.le_of_ble_eq_true rfl) (HI.some h)
      have h := HI.f c188 h
      by_cases c196 : (v3 &&& (31 : Int32)) = 22
      · have h := HI.t c196 h
        refine wp_tsIn (tgt := 758) (v := 22) (z := 22) (off := 725) dL_law_33 c196 (by decide) (by decide) (by decide) (by decide) (by decide) ?_
        refine wp_aload_n (i := 1) dL_law_758 rfl rfl ?_
        refine wp_aload_n (i := 0) dL_law_759 rfl rfl ?_
        refine wp_iload_n (i := 3) dL_law_760 rfl rfl ?_
        refine wp_iconst (v := 1) dL_law_761 (by decide) ?_
        refine wp_iadd dL_law_762 ?_
        obtain ⟨v197, ev197, h⟩ := HI.bind h
        refine wp_iaload dL_law_763 ev197 ?_
        refine wp_aload_n (i := 0) dL_law_764 rfl rfl ?_
        refine wp_iload_n (i := 3) dL_law_765 rfl rfl ?_
        refine wp_iconst (v := 2) dL_law_766 (by decide) ?_
        refine wp_iadd dL_law_767 ?_
        obtain ⟨v198, ev198, h⟩ := HI.bind h
        refine wp_iaload dL_law_768 ev198 ?_
        obtain ⟨v200, ev200, h⟩ := HI.bind h
        obtain ⟨v199, ev199, h⟩ := HI.bind h
        refine cgV_i (Y' := Y_X6_told) (kc2 := 258) (ks2 := 2584) dL_law_769 ml_L_105 ce_X6_told (t := 6) rfl (by decide) ⟨(Nat.le_of_ble_eq_true rfl), (Nat.le_of_ble_eq_true rfl)⟩ ⟨(Nat.le_of_ble_eq_true rfl), (Nat.le_of_ble_eq_true rfl)⟩ rfl rfl (chkT_eq ev200) (ct_X6_told ev199) rfl rfl (Nat.le_of_ble_eq_true rfl) ?_
        refine wp_aload_n (i := 2) dL_law_772 rfl rfl ?_
        refine wp_aload_n (i := 0) dL_law_773 rfl rfl ?_
        refine wp_iload_n (i := 3) dL_law_774 rfl rfl ?_
        refine wp_iconst (v := 1) dL_law_775 (by decide) ?_
        refine wp_iadd dL_law_776 ?_
        obtain ⟨v201, ev201, h⟩ := HI.bind h
        refine wp_iaload dL_law_777 ev201 ?_
        refine wp_aload_n (i := 0) dL_law_778 rfl rfl ?_
        refine wp_iload_n (i := 3) dL_law_779 rfl rfl ?_
        refine wp_iconst (v := 2) dL_law_780 (by decide) ?_
        refine wp_iadd dL_law_781 ?_
        obtain ⟨v202, ev202, h⟩ := HI.bind h
        refine wp_iaload dL_law_782 ev202 ?_
        obtain ⟨v204, ev204, h⟩ := HI.bind h
        obtain ⟨v203, ev203, h⟩ := HI.bind h
        refine cgV_i (Y' := Y_X7_told) (kc2 := 258) (ks2 := 2584) dL_law_783 ml_L_108 ce_X7_told (t := 7) rfl (by decide) ⟨(Nat.le_of_ble_eq_true rfl), (Nat.le_of_ble_eq_true rfl)⟩ ⟨(Nat.le_of_ble_eq_true rfl), (Nat.le_of_ble_eq_true rfl)⟩ rfl rfl (chkT_eq ev204) (ct_X7_told ev203) rfl rfl (Nat.le_of_ble_eq_true rfl) ?_
        refine wp_icmp_eq (tgt := 1005) dL_law_786 (by decide) (fun c205 => ?_) (fun c205 => ?_)
        · have h := HI.t c205 h
          exact (w_L_law_1005 ih h)
        · have h := HI.f c205 h
          refine wp_iconst (v := 0) dL_law_789 (by decide) ?_
          exact wp_iret dL_law_790 rfl (by decide) (Nat.le_of_ble_eq_true rfl) (Nat.le_of_ble_eq_true rfl) (HI.some h)
      have h := HI.f c196 h
      by_cases c206 : (v3 &&& (31 : Int32)) = 23
      · have h := HI.t c206 h
        refine wp_tsIn (tgt := 791) (v := 23) (z := 23) (off := 758) dL_law_33 c206 (by decide) (by decide) (by decide) (by decide) (by decide) ?_
        refine wp_aload_n (i := 1) dL_law_791 rfl rfl ?_
        refine wp_aload_n (i := 0) dL_law_792 rfl rfl ?_
        refine wp_iload_n (i := 3) dL_law_793 rfl rfl ?_
        refine wp_iconst (v := 1) dL_law_794 (by decide) ?_
        refine wp_iadd dL_law_795 ?_
        obtain ⟨v207, ev207, h⟩ := HI.bind h
        refine wp_iaload dL_law_796 ev207 ?_
        obtain ⟨v209, ev209, h⟩ := HI.bind h
        obtain ⟨v208, ev208, h⟩ := HI.bind h
        refine cgV_i (Y' := Y_X6_rings) (kc2 := 258) (ks2 := 2584) dL_law_797 ml_L_109 ce_X6_rings (t := 6) rfl (by decide) ⟨(Nat.le_of_ble_eq_true rfl), (Nat.le_of_ble_eq_true rfl)⟩ ⟨(Nat.le_of_ble_eq_true rfl), (Nat.le_of_ble_eq_true rfl)⟩ rfl rfl (chkT_eq ev209) (ct_X6_rings ev208) rfl rfl (Nat.le_of_ble_eq_true rfl) ?_
        refine wp_aload_n (i := 2) dL_law_800 rfl rfl ?_
        refine wp_aload_n (i := 0) dL_law_801 rfl rfl ?_
        refine wp_iload_n (i := 3) dL_law_802 rfl rfl ?_
        refine wp_iconst (v := 1) dL_law_803 (by decide) ?_
        refine wp_iadd dL_law_804 ?_
        obtain ⟨v210, ev210, h⟩ := HI.bind h
        refine wp_iaload dL_law_805 ev210 ?_
        obtain ⟨v212, ev212, h⟩ := HI.bind h
        obtain ⟨v211, ev211, h⟩ := HI.bind h
        refine cgV_i (Y' := Y_X7_rings) (kc2 := 258) (ks2 := 2584) dL_law_806 ml_L_112 ce_X7_rings (t := 7) rfl (by decide) ⟨(Nat.le_of_ble_eq_true rfl), (Nat.le_of_ble_eq_true rfl)⟩ ⟨(Nat.le_of_ble_eq_true rfl), (Nat.le_of_ble_eq_true rfl)⟩ rfl rfl (chkT_eq ev212) (ct_X7_rings ev211) rfl rfl (Nat.le_of_ble_eq_true rfl) ?_
        refine wp_icmp_eq (tgt := 1005) dL_law_809 (by decide) (fun c213 => ?_) (fun c213 => ?_)
        · have h := HI.t c213 h
          exact (w_L_law_1005 ih h)
        · have h := HI.f c213 h
          refine wp_iconst (v := 0) dL_law_812 (by decide) ?_
          exact wp_iret dL_law_813 rfl (by decide) (Nat.le_of_ble_eq_true rfl) (Nat.le_of_ble_eq_true rfl) (HI.some h)
      have h := HI.f c206 h
      by_cases c214 : (v3 &&& (31 : Int32)) = 24
      · have h := HI.t c214 h
        refine wp_tsIn (tgt := 814) (v := 24) (z := 24) (off := 781) dL_law_33 c214 (by decide) (by decide) (by decide) (by decide) (by decide) ?_
        refine wp_aload_n (i := 1) dL_law_814 rfl rfl ?_
        refine wp_aload_n (i := 0) dL_law_815 rfl rfl ?_
        refine wp_iload_n (i := 3) dL_law_816 rfl rfl ?_
        refine wp_iconst (v := 1) dL_law_817 (by decide) ?_
        refine wp_iadd dL_law_818 ?_
        obtain ⟨v215, ev215, h⟩ := HI.bind h
        refine wp_iaload dL_law_819 ev215 ?_
        obtain ⟨v217, ev217, h⟩ := HI.bind h
        obtain ⟨v216, ev216, h⟩ := HI.bind h
        refine cgV_i (Y' := Y_X6_look) (kc2 := 258) (ks2 := 2584) dL_law_820 ml_L_113 ce_X6_look (t := 6) rfl (by decide) ⟨(Nat.le_of_ble_eq_true rfl), (Nat.le_of_ble_eq_true rfl)⟩ ⟨(Nat.le_of_ble_eq_true rfl), (Nat.le_of_ble_eq_true rfl)⟩ rfl rfl (chkT_eq ev217) (ct_X6_look ev216) rfl rfl (Nat.le_of_ble_eq_true rfl) ?_
        refine wp_aload_n (i := 2) dL_law_823 rfl rfl ?_
        refine wp_aload_n (i := 0) dL_law_824 rfl rfl ?_
        refine wp_iload_n (i := 3) dL_law_825 rfl rfl ?_
        refine wp_iconst (v := 1) dL_law_826 (by decide) ?_
        refine wp_iadd dL_law_827 ?_
        obtain ⟨v218, ev218, h⟩ := HI.bind h
        refine wp_iaload dL_law_828 ev218 ?_
        obtain ⟨v220, ev220, h⟩ := HI.bind h
        obtain ⟨v219, ev219, h⟩ := HI.bind h
        refine cgV_i (Y' := Y_X7_look) (kc2 := 258) (ks2 := 2584) dL_law_829 ml_L_116 ce_X7_look (t := 7) rfl (by decide) ⟨(Nat.le_of_ble_eq_true rfl), (Nat.le_of_ble_eq_true rfl)⟩ ⟨(Nat.le_of_ble_eq_true rfl), (Nat.le_of_ble_eq_true rfl)⟩ rfl rfl (chkT_eq ev220) (ct_X7_look ev219) rfl rfl (Nat.le_of_ble_eq_true rfl) ?_
        refine wp_icmp_eq (tgt := 1005) dL_law_832 (by decide) (fun c221 => ?_) (fun c221 => ?_)
        · have h := HI.t c221 h
          exact (w_L_law_1005 ih h)
        · have h := HI.f c221 h
          refine wp_iconst (v := 0) dL_law_835 (by decide) ?_
          exact wp_iret dL_law_836 rfl (by decide) (Nat.le_of_ble_eq_true rfl) (Nat.le_of_ble_eq_true rfl) (HI.some h)
      have h := HI.f c214 h
      by_cases c222 : (v3 &&& (31 : Int32)) = 25
      · have h := HI.t c222 h
        refine wp_tsIn (tgt := 837) (v := 25) (z := 25) (off := 804) dL_law_33 c222 (by decide) (by decide) (by decide) (by decide) (by decide) ?_
        refine wp_aload_n (i := 1) dL_law_837 rfl rfl ?_
        obtain ⟨v224, ev224, h⟩ := HI.bind h
        obtain ⟨v223, ev223, h⟩ := HI.bind h
        refine cgV_i (Y' := Y_X6_forget) (kc2 := 258) (ks2 := 2584) dL_law_838 ml_L_117 ce_X6_forget (t := 6) rfl (by decide) ⟨(Nat.le_of_ble_eq_true rfl), (Nat.le_of_ble_eq_true rfl)⟩ ⟨(Nat.le_of_ble_eq_true rfl), (Nat.le_of_ble_eq_true rfl)⟩ rfl rfl (chkT_eq ev224) (ct_X6_forget ev223) rfl rfl (Nat.le_of_ble_eq_true rfl) ?_
        refine wp_aload_n (i := 2) dL_law_841 rfl rfl ?_
        obtain ⟨v226, ev226, h⟩ := HI.bind h
        obtain ⟨v225, ev225, h⟩ := HI.bind h
        refine cgV_i (Y' := Y_X7_forget) (kc2 := 258) (ks2 := 2584) dL_law_842 ml_L_120 ce_X7_forget (t := 7) rfl (by decide) ⟨(Nat.le_of_ble_eq_true rfl), (Nat.le_of_ble_eq_true rfl)⟩ ⟨(Nat.le_of_ble_eq_true rfl), (Nat.le_of_ble_eq_true rfl)⟩ rfl rfl (chkT_eq ev226) (ct_X7_forget ev225) rfl rfl (Nat.le_of_ble_eq_true rfl) ?_
        refine wp_icmp_eq (tgt := 1005) dL_law_845 (by decide) (fun c227 => ?_) (fun c227 => ?_)
        · have h := HI.t c227 h
          exact (w_L_law_1005 ih h)
        · have h := HI.f c227 h
          refine wp_iconst (v := 0) dL_law_848 (by decide) ?_
          exact wp_iret dL_law_849 rfl (by decide) (Nat.le_of_ble_eq_true rfl) (Nat.le_of_ble_eq_true rfl) (HI.some h)
      have h := HI.f c222 h
      by_cases c228 : (v3 &&& (31 : Int32)) = 26
      · have h := HI.t c228 h
        refine wp_tsIn (tgt := 850) (v := 26) (z := 26) (off := 817) dL_law_33 c228 (by decide) (by decide) (by decide) (by decide) (by decide) ?_
        refine wp_aload_n (i := 1) dL_law_850 rfl rfl ?_
        refine wp_aload_n (i := 0) dL_law_851 rfl rfl ?_
        refine wp_iload_n (i := 3) dL_law_852 rfl rfl ?_
        refine wp_iconst (v := 1) dL_law_853 (by decide) ?_
        refine wp_iadd dL_law_854 ?_
        obtain ⟨v229, ev229, h⟩ := HI.bind h
        refine wp_iaload dL_law_855 ev229 ?_
        refine wp_aload_n (i := 0) dL_law_856 rfl rfl ?_
        refine wp_iload_n (i := 3) dL_law_857 rfl rfl ?_
        refine wp_iconst (v := 2) dL_law_858 (by decide) ?_
        refine wp_iadd dL_law_859 ?_
        obtain ⟨v230, ev230, h⟩ := HI.bind h
        refine wp_iaload dL_law_860 ev230 ?_
        refine wp_aload_n (i := 0) dL_law_861 rfl rfl ?_
        refine wp_iload_n (i := 3) dL_law_862 rfl rfl ?_
        refine wp_iconst (v := 3) dL_law_863 (by decide) ?_
        refine wp_iadd dL_law_864 ?_
        obtain ⟨v231, ev231, h⟩ := HI.bind h
        refine wp_iaload dL_law_865 ev231 ?_
        refine wp_aload_n (i := 0) dL_law_866 rfl rfl ?_
        refine wp_iload_n (i := 3) dL_law_867 rfl rfl ?_
        refine wp_iconst (v := 4) dL_law_868 (by decide) ?_
        refine wp_iadd dL_law_869 ?_
        obtain ⟨v232, ev232, h⟩ := HI.bind h
        refine wp_iaload dL_law_870 ev232 ?_
        refine wp_aload_n (i := 0) dL_law_871 rfl rfl ?_
        refine wp_iload_n (i := 3) dL_law_872 rfl rfl ?_
        refine wp_iconst (v := 5) dL_law_873 (by decide) ?_
        refine wp_iadd dL_law_874 ?_
        obtain ⟨v233, ev233, h⟩ := HI.bind h
        refine wp_iaload dL_law_875 ev233 ?_
        obtain ⟨v235, ev235, h⟩ := HI.bind h
        obtain ⟨v234, ev234, h⟩ := HI.bind h
        refine cgV_i (Y' := Y_X6_likely) (kc2 := 258) (ks2 := 2584) dL_law_876 ml_L_121 ce_X6_likely (t := 6) rfl (by decide) ⟨(Nat.le_of_ble_eq_true rfl), (Nat.le_of_ble_eq_true rfl)⟩ ⟨(Nat.le_of_ble_eq_true rfl), (Nat.le_of_ble_eq_true rfl)⟩ rfl rfl (chkT_eq ev235) (ct_X6_likely ev234) rfl rfl (Nat.le_of_ble_eq_true rfl) ?_
        refine wp_aload_n (i := 2) dL_law_879 rfl rfl ?_
        refine wp_aload_n (i := 0) dL_law_880 rfl rfl ?_
        refine wp_iload_n (i := 3) dL_law_881 rfl rfl ?_
        refine wp_iconst (v := 1) dL_law_882 (by decide) ?_
        refine wp_iadd dL_law_883 ?_
        obtain ⟨v236, ev236, h⟩ := HI.bind h
        refine wp_iaload dL_law_884 ev236 ?_
        refine wp_aload_n (i := 0) dL_law_885 rfl rfl ?_
        refine wp_iload_n (i := 3) dL_law_886 rfl rfl ?_
        refine wp_iconst (v := 2) dL_law_887 (by decide) ?_
        refine wp_iadd dL_law_888 ?_
        obtain ⟨v237, ev237, h⟩ := HI.bind h
        refine wp_iaload dL_law_889 ev237 ?_
        refine wp_aload_n (i := 0) dL_law_890 rfl rfl ?_
        refine wp_iload_n (i := 3) dL_law_891 rfl rfl ?_
        refine wp_iconst (v := 3) dL_law_892 (by decide) ?_
        refine wp_iadd dL_law_893 ?_
        obtain ⟨v238, ev238, h⟩ := HI.bind h
        refine wp_iaload dL_law_894 ev238 ?_
        refine wp_aload_n (i := 0) dL_law_895 rfl rfl ?_
        refine wp_iload_n (i := 3) dL_law_896 rfl rfl ?_
        refine wp_iconst (v := 4) dL_law_897 (by decide) ?_
        refine wp_iadd dL_law_898 ?_
        obtain ⟨v239, ev239, h⟩ := HI.bind h
        refine wp_iaload dL_law_899 ev239 ?_
        refine wp_aload_n (i := 0) dL_law_900 rfl rfl ?_
        refine wp_iload_n (i := 3) dL_law_901 rfl rfl ?_
        refine wp_iconst (v := 5) dL_law_902 (by decide) ?_
        refine wp_iadd dL_law_903 ?_
        obtain ⟨v240, ev240, h⟩ := HI.bind h
        refine wp_iaload dL_law_904 ev240 ?_
        obtain ⟨v242, ev242, h⟩ := HI.bind h
        obtain ⟨v241, ev241, h⟩ := HI.bind h
        refine cgV_i (Y' := Y_X7_likely) (kc2 := 258) (ks2 := 2584) dL_law_905 ml_L_125 ce_X7_likely (t := 7) rfl (by decide) ⟨(Nat.le_of_ble_eq_true rfl), (Nat.le_of_ble_eq_true rfl)⟩ ⟨(Nat.le_of_ble_eq_true rfl), (Nat.le_of_ble_eq_true rfl)⟩ rfl rfl (chkT_eq ev242) (ct_X7_likely ev241) rfl rfl (Nat.le_of_ble_eq_true rfl) ?_
        refine wp_icmp_eq (tgt := 1005) dL_law_908 (by decide) (fun c243 => ?_) (fun c243 => ?_)
        · have h := HI.t c243 h
          exact (w_L_law_1005 ih h)
        · have h := HI.f c243 h
          refine wp_iconst (v := 0) dL_law_911 (by decide) ?_
          exact wp_iret dL_law_912 rfl (by decide) (Nat.le_of_ble_eq_true rfl) (Nat.le_of_ble_eq_true rfl) (HI.some h)
      have h := HI.f c228 h
      by_cases c244 : (v3 &&& (31 : Int32)) = 27
      · have h := HI.t c244 h
        refine wp_tsIn (tgt := 913) (v := 27) (z := 27) (off := 880) dL_law_33 c244 (by decide) (by decide) (by decide) (by decide) (by decide) ?_
        refine wp_aload_n (i := 1) dL_law_913 rfl rfl ?_
        refine wp_aload_n (i := 0) dL_law_914 rfl rfl ?_
        refine wp_iload_n (i := 3) dL_law_915 rfl rfl ?_
        refine wp_iconst (v := 1) dL_law_916 (by decide) ?_
        refine wp_iadd dL_law_917 ?_
        obtain ⟨v245, ev245, h⟩ := HI.bind h
        refine wp_iaload dL_law_918 ev245 ?_
        refine wp_aload_n (i := 0) dL_law_919 rfl rfl ?_
        refine wp_iload_n (i := 3) dL_law_920 rfl rfl ?_
        refine wp_iconst (v := 2) dL_law_921 (by decide) ?_
        refine wp_iadd dL_law_922 ?_
        obtain ⟨v246, ev246, h⟩ := HI.bind h
        refine wp_iaload dL_law_923 ev246 ?_
        refine wp_aload_n (i := 0) dL_law_924 rfl rfl ?_
        refine wp_iload_n (i := 3) dL_law_925 rfl rfl ?_
        refine wp_iconst (v := 3) dL_law_926 (by decide) ?_
        refine wp_iadd dL_law_927 ?_
        obtain ⟨v247, ev247, h⟩ := HI.bind h
        refine wp_iaload dL_law_928 ev247 ?_
        obtain ⟨v249, ev249, h⟩ := HI.bind h
        obtain ⟨v248, ev248, h⟩ := HI.bind h
        refine cgV_i (Y' := Y_X6_season) (kc2 := 258) (ks2 := 2584) dL_law_929 ml_L_126 ce_X6_season (t := 6) rfl (by decide) ⟨(Nat.le_of_ble_eq_true rfl), (Nat.le_of_ble_eq_true rfl)⟩ ⟨(Nat.le_of_ble_eq_true rfl), (Nat.le_of_ble_eq_true rfl)⟩ rfl rfl (chkT_eq ev249) (ct_X6_season ev248) rfl rfl (Nat.le_of_ble_eq_true rfl) ?_
        refine wp_aload_n (i := 2) dL_law_932 rfl rfl ?_
        refine wp_aload_n (i := 0) dL_law_933 rfl rfl ?_
        refine wp_iload_n (i := 3) dL_law_934 rfl rfl ?_
        refine wp_iconst (v := 1) dL_law_935 (by decide) ?_
        refine wp_iadd dL_law_936 ?_
        obtain ⟨v250, ev250, h⟩ := HI.bind h
        refine wp_iaload dL_law_937 ev250 ?_
        refine wp_aload_n (i := 0) dL_law_938 rfl rfl ?_
        refine wp_iload_n (i := 3) dL_law_939 rfl rfl ?_
        refine wp_iconst (v := 2) dL_law_940 (by decide) ?_
        refine wp_iadd dL_law_941 ?_
        obtain ⟨v251, ev251, h⟩ := HI.bind h
        refine wp_iaload dL_law_942 ev251 ?_
        refine wp_aload_n (i := 0) dL_law_943 rfl rfl ?_
        refine wp_iload_n (i := 3) dL_law_944 rfl rfl ?_
        refine wp_iconst (v := 3) dL_law_945 (by decide) ?_
        refine wp_iadd dL_law_946 ?_
        obtain ⟨v252, ev252, h⟩ := HI.bind h
        refine wp_iaload dL_law_947 ev252 ?_
        obtain ⟨v254, ev254, h⟩ := HI.bind h
        obtain ⟨v253, ev253, h⟩ := HI.bind h
        refine cgV_i (Y' := Y_X7_season) (kc2 := 258) (ks2 := 2584) dL_law_948 ml_L_129 ce_X7_season (t := 7) rfl (by decide) ⟨(Nat.le_of_ble_eq_true rfl), (Nat.le_of_ble_eq_true rfl)⟩ ⟨(Nat.le_of_ble_eq_true rfl), (Nat.le_of_ble_eq_true rfl)⟩ rfl rfl (chkT_eq ev254) (ct_X7_season ev253) rfl rfl (Nat.le_of_ble_eq_true rfl) ?_
        refine wp_icmp_eq (tgt := 1005) dL_law_951 (by decide) (fun c255 => ?_) (fun c255 => ?_)
        · have h := HI.t c255 h
          exact (w_L_law_1005 ih h)
        · have h := HI.f c255 h
          refine wp_iconst (v := 0) dL_law_954 (by decide) ?_
          exact wp_iret dL_law_955 rfl (by decide) (Nat.le_of_ble_eq_true rfl) (Nat.le_of_ble_eq_true rfl) (HI.some h)
      have h := HI.f c244 h
      by_cases c256 : (v3 &&& (31 : Int32)) = 28
      · have h := HI.t c256 h
        refine wp_tsIn (tgt := 956) (v := 28) (z := 28) (off := 923) dL_law_33 c256 (by decide) (by decide) (by decide) (by decide) (by decide) ?_
        refine wp_aload_n (i := 1) dL_law_956 rfl rfl ?_
        obtain ⟨v258, ev258, h⟩ := HI.bind h
        obtain ⟨v257, ev257, h⟩ := HI.bind h
        refine cgV_i (Y' := Y_X6_keep) (kc2 := 258) (ks2 := 2584) dL_law_957 ml_L_130 ce_X6_keep (t := 6) rfl (by decide) ⟨(Nat.le_of_ble_eq_true rfl), (Nat.le_of_ble_eq_true rfl)⟩ ⟨(Nat.le_of_ble_eq_true rfl), (Nat.le_of_ble_eq_true rfl)⟩ rfl rfl (chkT_eq ev258) (ct_X6_keep ev257) rfl rfl (Nat.le_of_ble_eq_true rfl) ?_
        refine wp_aload_n (i := 2) dL_law_960 rfl rfl ?_
        obtain ⟨v260, ev260, h⟩ := HI.bind h
        obtain ⟨v259, ev259, h⟩ := HI.bind h
        refine cgV_i (Y' := Y_X7_keep) (kc2 := 258) (ks2 := 2584) dL_law_961 ml_L_133 ce_X7_keep (t := 7) rfl (by decide) ⟨(Nat.le_of_ble_eq_true rfl), (Nat.le_of_ble_eq_true rfl)⟩ ⟨(Nat.le_of_ble_eq_true rfl), (Nat.le_of_ble_eq_true rfl)⟩ rfl rfl (chkT_eq ev260) (ct_X7_keep ev259) rfl rfl (Nat.le_of_ble_eq_true rfl) ?_
        refine wp_icmp_eq (tgt := 1005) dL_law_964 (by decide) (fun c261 => ?_) (fun c261 => ?_)
        · have h := HI.t c261 h
          exact (w_L_law_1005 ih h)
        · have h := HI.f c261 h
          refine wp_iconst (v := 0) dL_law_967 (by decide) ?_
          exact wp_iret dL_law_968 rfl (by decide) (Nat.le_of_ble_eq_true rfl) (Nat.le_of_ble_eq_true rfl) (HI.some h)
      have h := HI.f c256 h
      by_cases c262 : (v3 &&& (31 : Int32)) = 29
      · have h := HI.t c262 h
        refine wp_tsIn (tgt := 969) (v := 29) (z := 29) (off := 936) dL_law_33 c262 (by decide) (by decide) (by decide) (by decide) (by decide) ?_
        refine wp_aload_n (i := 1) dL_law_969 rfl rfl ?_
        obtain ⟨v264, ev264, h⟩ := HI.bind h
        obtain ⟨v263, ev263, h⟩ := HI.bind h
        refine cgV_i (Y' := Y_X6_back) (kc2 := 258) (ks2 := 2584) dL_law_970 ml_L_134 ce_X6_back (t := 6) rfl (by decide) ⟨(Nat.le_of_ble_eq_true rfl), (Nat.le_of_ble_eq_true rfl)⟩ ⟨(Nat.le_of_ble_eq_true rfl), (Nat.le_of_ble_eq_true rfl)⟩ rfl rfl (chkT_eq ev264) (ct_X6_back ev263) rfl rfl (Nat.le_of_ble_eq_true rfl) ?_
        refine wp_aload_n (i := 2) dL_law_973 rfl rfl ?_
        obtain ⟨v266, ev266, h⟩ := HI.bind h
        obtain ⟨v265, ev265, h⟩ := HI.bind h
        refine cgV_i (Y' := Y_X7_back) (kc2 := 258) (ks2 := 2584) dL_law_974 ml_L_137 ce_X7_back (t := 7) rfl (by decide) ⟨(Nat.le_of_ble_eq_true rfl), (Nat.le_of_ble_eq_true rfl)⟩ ⟨(Nat.le_of_ble_eq_true rfl), (Nat.le_of_ble_eq_true rfl)⟩ rfl rfl (chkT_eq ev266) (ct_X7_back ev265) rfl rfl (Nat.le_of_ble_eq_true rfl) ?_
        refine wp_icmp_eq (tgt := 1005) dL_law_977 (by decide) (fun c267 => ?_) (fun c267 => ?_)
        · have h := HI.t c267 h
          exact (w_L_law_1005 ih h)
        · have h := HI.f c267 h
          refine wp_iconst (v := 0) dL_law_980 (by decide) ?_
          exact wp_iret dL_law_981 rfl (by decide) (Nat.le_of_ble_eq_true rfl) (Nat.le_of_ble_eq_true rfl) (HI.some h)
      have h := HI.f c262 h
      by_cases c268 : (v3 &&& (31 : Int32)) = 30
      · have h := HI.t c268 h
        refine wp_tsIn (tgt := 982) (v := 30) (z := 30) (off := 949) dL_law_33 c268 (by decide) (by decide) (by decide) (by decide) (by decide) ?_
        refine wp_aload_n (i := 1) dL_law_982 rfl rfl ?_
        refine wp_aload_n (i := 0) dL_law_983 rfl rfl ?_
        refine wp_iload_n (i := 3) dL_law_984 rfl rfl ?_
        refine wp_iconst (v := 1) dL_law_985 (by decide) ?_
        refine wp_iadd dL_law_986 ?_
        obtain ⟨v269, ev269, h⟩ := HI.bind h
        refine wp_iaload dL_law_987 ev269 ?_
        obtain ⟨v271, ev271, h⟩ := HI.bind h
        obtain ⟨v270, ev270, h⟩ := HI.bind h
        refine cgV_i (Y' := Y_X6_count) (kc2 := 258) (ks2 := 2584) dL_law_988 ml_L_138 ce_X6_count (t := 6) rfl (by decide) ⟨(Nat.le_of_ble_eq_true rfl), (Nat.le_of_ble_eq_true rfl)⟩ ⟨(Nat.le_of_ble_eq_true rfl), (Nat.le_of_ble_eq_true rfl)⟩ rfl rfl (chkT_eq ev271) (ct_X6_count ev270) rfl rfl (Nat.le_of_ble_eq_true rfl) ?_
        refine wp_aload_n (i := 2) dL_law_991 rfl rfl ?_
        refine wp_aload_n (i := 0) dL_law_992 rfl rfl ?_
        refine wp_iload_n (i := 3) dL_law_993 rfl rfl ?_
        refine wp_iconst (v := 1) dL_law_994 (by decide) ?_
        refine wp_iadd dL_law_995 ?_
        obtain ⟨v272, ev272, h⟩ := HI.bind h
        refine wp_iaload dL_law_996 ev272 ?_
        obtain ⟨v274, ev274, h⟩ := HI.bind h
        obtain ⟨v273, ev273, h⟩ := HI.bind h
        refine cgV_i (Y' := Y_X7_count) (kc2 := 258) (ks2 := 2584) dL_law_997 ml_L_141 ce_X7_count (t := 7) rfl (by decide) ⟨(Nat.le_of_ble_eq_true rfl), (Nat.le_of_ble_eq_true rfl)⟩ ⟨(Nat.le_of_ble_eq_true rfl), (Nat.le_of_ble_eq_true rfl)⟩ rfl rfl (chkT_eq ev274) (ct_X7_count ev273) rfl rfl (Nat.le_of_ble_eq_true rfl) ?_
        refine wp_icmp_eq (tgt := 1005) dL_law_1000 (by decide) (fun c275 => ?_) (fun c275 => ?_)
        · have h := HI.t c275 h
          exact (w_L_law_1005 ih h)
        · have h := HI.f c275 h
          refine wp_iconst (v := 0) dL_law_1003 (by decide) ?_
          exact wp_iret dL_law_1004 rfl (by decide) (Nat.le_of_ble_eq_true rfl) (Nat.le_of_ble_eq_true rfl) (HI.some h)
      have h := HI.f c268 h
      have hz : ((v3 &&& (31 : Int32))).toInt < 0 ∨ 30 < ((v3 &&& (31 : Int32))).toInt := by
        have nc4 := lv_neT (a := 0) c4 (by decide)
        have nc12 := lv_neT (a := 1) c12 (by decide)
        have nc18 := lv_neT (a := 2) c18 (by decide)
        have nc24 := lv_neT (a := 3) c24 (by decide)
        have nc30 := lv_neT (a := 4) c30 (by decide)
        have nc40 := lv_neT (a := 5) c40 (by decide)
        have nc50 := lv_neT (a := 6) c50 (by decide)
        have nc58 := lv_neT (a := 7) c58 (by decide)
        have nc66 := lv_neT (a := 8) c66 (by decide)
        have nc78 := lv_neT (a := 9) c78 (by decide)
        have nc86 := lv_neT (a := 10) c86 (by decide)
        have nc96 := lv_neT (a := 11) c96 (by decide)
        have nc102 := lv_neT (a := 12) c102 (by decide)
        have nc112 := lv_neT (a := 13) c112 (by decide)
        have nc122 := lv_neT (a := 14) c122 (by decide)
        have nc130 := lv_neT (a := 15) c130 (by decide)
        have nc142 := lv_neT (a := 16) c142 (by decide)
        have nc150 := lv_neT (a := 17) c150 (by decide)
        have nc160 := lv_neT (a := 18) c160 (by decide)
        have nc168 := lv_neT (a := 19) c168 (by decide)
        have nc180 := lv_neT (a := 20) c180 (by decide)
        have nc188 := lv_neT (a := 21) c188 (by decide)
        have nc196 := lv_neT (a := 22) c196 (by decide)
        have nc206 := lv_neT (a := 23) c206 (by decide)
        have nc214 := lv_neT (a := 24) c214 (by decide)
        have nc222 := lv_neT (a := 25) c222 (by decide)
        have nc228 := lv_neT (a := 26) c228 (by decide)
        have nc244 := lv_neT (a := 27) c244 (by decide)
        have nc256 := lv_neT (a := 28) c256 (by decide)
        have nc262 := lv_neT (a := 29) c262 (by decide)
        have nc268 := lv_neT (a := 30) c268 (by decide)
        omega
      refine wp_tsOut (tgt := 1005) dL_law_33 hz (by decide) ?_
      exact (w_L_law_1005 ih h)
theorem w_L_law_0 {D : DT} {l : Launch} {m : Mem} {post : Option Value → Mem → Prop} {x0 : Nat} (h : HI (F_L_law x0 m) post) : WP D l Y_L_law 0 0 0 [.ref x0, JK, JK, JK] [] m post := by
  refine wp_new cl6 kl_L_7 iw_6 nw_6 dL_law_0 (Nat.le_of_ble_eq_true rfl) (Nat.le_of_ble_eq_true rfl) ?_
  refine wp_dup dL_law_3 rfl ?_
  obtain ⟨v277, ev277, h⟩ := HI.bind h
  obtain ⟨v276, ev276, h⟩ := HI.bind h
  refine cgI_v (Y' := Y_X6_init) (kc2 := 239) (ks2 := 1903) dL_law_4 ml_L_9 ce_X6_init ⟨(Nat.le_of_ble_eq_true rfl), (Nat.le_of_ble_eq_true rfl)⟩ ⟨(Nat.le_of_ble_eq_true rfl), (Nat.le_of_ble_eq_true rfl)⟩ rfl rfl (chkT_lt ev277 (by decide)) (ct_X6_init ev276) rfl rfl (Nat.le_of_ble_eq_true rfl) ?_
  refine wp_astore_n (i := 1) dL_law_7 rfl rfl rfl ?_
  refine wp_new cl7 kl_L_10 iw_7 nw_7 dL_law_8 (Nat.le_of_ble_eq_true rfl) (Nat.le_of_ble_eq_true rfl) ?_
  refine wp_dup dL_law_11 rfl ?_
  obtain ⟨v279, ev279, h⟩ := HI.bind h
  obtain ⟨v278, ev278, h⟩ := HI.bind h
  refine cgI_v (Y' := Y_X7_init) (kc2 := 258) (ks2 := 2584) dL_law_12 ml_L_12 ce_X7_init ⟨(Nat.le_of_ble_eq_true rfl), (Nat.le_of_ble_eq_true rfl)⟩ ⟨(Nat.le_of_ble_eq_true rfl), (Nat.le_of_ble_eq_true rfl)⟩ rfl rfl (chkT_lt ev279 (by decide)) (ct_X7_init ev278) rfl rfl (Nat.le_of_ble_eq_true rfl) ?_
  refine wp_astore_n (i := 2) dL_law_15 rfl rfl rfl ?_
  refine wp_iconst (v := 0) dL_law_16 (by decide) ?_
  refine wp_istore_n (i := 3) dL_law_17 rfl rfl rfl ?_
  exact (w_L_law_18 _ _ _ _ _ _ h)
