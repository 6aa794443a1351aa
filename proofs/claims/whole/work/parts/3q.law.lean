/-! THE LAW'S LOOP AS A FUNCTION (by program). -/
noncomputable def l_L_law_31 (K : px_K) (N : Nat) (n : Nat) (m4 : Int32) (s : px_S) (t : px_W) : Option px_LO := match n with
  | 0 => none
  | n + 1 => (if ((Int32.ofNat K.1) - (5 : Int32)) < m4 then (some (.inl (693, [], s, t))) else (px_gd (vp_in m4 K.1) (if ((K.2.1 m4.toNatClampNeg) &&& (31 : Int32)).toInt = 0 then (px_gd ((vp_in (m4 + (1 : Int32)) K.1) ∧ (vp_in (m4 + (2 : Int32)) K.1)) (px_gd (vp_in (m4 + (3 : Int32)) K.1) (px_bi (f_E_make_1 K N (K.2.1 (m4 + (1 : Int32)).toNatClampNeg) (K.2.1 (m4 + (2 : Int32)).toNatClampNeg) (if (K.2.1 (m4 + (3 : Int32)).toNatClampNeg) = 0 then (0 : Int32) else (1 : Int32)) s t) (fun v10 s7 t8 => (px_gd ((vp_in (m4 + (1 : Int32)) K.1) ∧ (vp_in (m4 + (2 : Int32)) K.1)) (px_gd (vp_in (m4 + (3 : Int32)) K.1) (px_bi (f_M_make_28 K N (K.2.1 (m4 + (1 : Int32)).toNatClampNeg) (K.2.1 (m4 + (2 : Int32)).toNatClampNeg) (if (K.2.1 (m4 + (3 : Int32)).toNatClampNeg) = 0 then (0 : Int32) else (1 : Int32)) s7 t8) (fun v18 s15 t16 => (if v10 = v18 then (l_L_law_31 K N n (m4 + (5 : Int32)) s15 t16) else (some (.inl (86, [], s15, t16))))) (fun x19 s15 t16 => none))))) (fun x11 s7 t8 => none)))) else (if ((K.2.1 m4.toNatClampNeg) &&& (31 : Int32)).toInt = 1 then (px_gd ((vp_in (m4 + (1 : Int32)) K.1) ∧ (vp_in (m4 + (2 : Int32)) K.1)) (px_bi (f_E_find_1 K N (K.2.1 (m4 + (1 : Int32)).toNatClampNeg) (K.2.1 (m4 + (2 : Int32)).toNatClampNeg) s t) (fun v29 s26 t27 => (px_gd ((vp_in (m4 + (1 : Int32)) K.1) ∧ (vp_in (m4 + (2 : Int32)) K.1)) (px_bi (f_M_find2_28 K N (K.2.1 (m4 + (1 : Int32)).toNatClampNeg) (K.2.1 (m4 + (2 : Int32)).toNatClampNeg) s26 t27) (fun v36 s33 t34 => (if v29 = v36 then (l_L_law_31 K N n (m4 + (5 : Int32)) s33 t34) else (some (.inl (113, [], s33, t34))))) (fun x37 s33 t34 => none)))) (fun x30 s26 t27 => none))) else (if ((K.2.1 m4.toNatClampNeg) &&& (31 : Int32)).toInt = 2 then (px_gd ((vp_in (m4 + (1 : Int32)) K.1) ∧ (vp_in (m4 + (2 : Int32)) K.1)) (px_gd (vp_in (m4 + (3 : Int32)) K.1) (px_bi (f_E_write_1 K N (K.2.1 (m4 + (1 : Int32)).toNatClampNeg) (K.2.1 (m4 + (2 : Int32)).toNatClampNeg) (K.2.1 (m4 + (3 : Int32)).toNatClampNeg) s t) (fun v46 s43 t44 => (px_gd ((vp_in (m4 + (1 : Int32)) K.1) ∧ (vp_in (m4 + (2 : Int32)) K.1)) (px_gd (vp_in (m4 + (3 : Int32)) K.1) (px_bi (f_M_write2_28 K N (K.2.1 (m4 + (1 : Int32)).toNatClampNeg) (K.2.1 (m4 + (2 : Int32)).toNatClampNeg) (K.2.1 (m4 + (3 : Int32)).toNatClampNeg) s43 t44) (fun v54 s51 t52 => (if v46 = v54 then (l_L_law_31 K N n (m4 + (5 : Int32)) s51 t52) else (some (.inl (150, [], s51, t52))))) (fun x55 s51 t52 => none))))) (fun x47 s43 t44 => none)))) else (if ((K.2.1 m4.toNatClampNeg) &&& (31 : Int32)).toInt = 3 then (px_gd ((vp_in (m4 + (1 : Int32)) K.1) ∧ (vp_in (m4 + (2 : Int32)) K.1)) (px_bi (f_L_read_1_46 K N (K.2.1 (m4 + (1 : Int32)).toNatClampNeg) (K.2.1 (m4 + (2 : Int32)).toNatClampNeg) s t) (fun v63 s60 t61 => (px_gd ((vp_in (m4 + (1 : Int32)) K.1) ∧ (vp_in (m4 + (2 : Int32)) K.1)) (px_bi (f_M_read2_28 K N (K.2.1 (m4 + (1 : Int32)).toNatClampNeg) (K.2.1 (m4 + (2 : Int32)).toNatClampNeg) s60 t61) (fun v70 s67 t68 => (px_bi (f_M_thrown_28 K N s67 t68) (fun v75 s72 t73 => (if v75 = v63 then (if ¬ v63 = 0 then (l_L_law_31 K N n (m4 + (5 : Int32)) s72 t73) else (px_gd (vp_in (0 : Int32) (K.2.2 46)) (if (lg_cmp ((s72.2.2.2) (0 : Int32).toNatClampNeg) v70.toInt64) = 0 then (l_L_law_31 K N n (m4 + (5 : Int32)) s72 t73) else (some (.inl (194, [], s72, t73)))))) else (some (.inl (183, [], s72, t73))))) (fun x76 s72 t73 => none))) (fun x71 s67 t68 => none)))) (fun x64 s60 t61 => none))) else (if ((K.2.1 m4.toNatClampNeg) &&& (31 : Int32)).toInt = 4 then (px_gd ((vp_in (m4 + (1 : Int32)) K.1) ∧ (vp_in (m4 + (2 : Int32)) K.1)) (px_bi (f_E_cut_1 K N (K.2.1 (m4 + (1 : Int32)).toNatClampNeg) (K.2.1 (m4 + (2 : Int32)).toNatClampNeg) s t) (fun v87 s84 t85 => (px_gd ((vp_in (m4 + (1 : Int32)) K.1) ∧ (vp_in (m4 + (2 : Int32)) K.1)) (px_bi (f_M_cut_28 K N (K.2.1 (m4 + (1 : Int32)).toNatClampNeg) (K.2.1 (m4 + (2 : Int32)).toNatClampNeg) s84 t85) (fun v94 s91 t92 => (if v87 = v94 then (l_L_law_31 K N n (m4 + (5 : Int32)) s91 t92) else (some (.inl (222, [], s91, t92))))) (fun x95 s91 t92 => none)))) (fun x88 s84 t85 => none))) else (if ((K.2.1 m4.toNatClampNeg) &&& (31 : Int32)).toInt = 5 then (px_gd ((vp_in (m4 + (1 : Int32)) K.1) ∧ (vp_in (m4 + (2 : Int32)) K.1)) (px_bi (f_E_remove_1 K N (K.2.1 (m4 + (1 : Int32)).toNatClampNeg) (K.2.1 (m4 + (2 : Int32)).toNatClampNeg) s t) (fun v103 s100 t101 => (px_gd ((vp_in (m4 + (1 : Int32)) K.1) ∧ (vp_in (m4 + (2 : Int32)) K.1)) (px_bi (f_M_remove_28 K N (K.2.1 (m4 + (1 : Int32)).toNatClampNeg) (K.2.1 (m4 + (2 : Int32)).toNatClampNeg) s100 t101) (fun v110 s107 t108 => (if v103 = v110 then (l_L_law_31 K N n (m4 + (5 : Int32)) s107 t108) else (some (.inl (249, [], s107, t108))))) (fun x111 s107 t108 => none)))) (fun x104 s100 t101 => none))) else (if ((K.2.1 m4.toNatClampNeg) &&& (31 : Int32)).toInt = 6 then (px_gd ((vp_in (m4 + (1 : Int32)) K.1) ∧ (vp_in (m4 + (2 : Int32)) K.1)) (px_gd ((vp_in (m4 + (3 : Int32)) K.1) ∧ (vp_in (m4 + (4 : Int32)) K.1)) (px_bi (f_E_move_1 K N (K.2.1 (m4 + (1 : Int32)).toNatClampNeg) (K.2.1 (m4 + (2 : Int32)).toNatClampNeg) (K.2.1 (m4 + (3 : Int32)).toNatClampNeg) (K.2.1 (m4 + (4 : Int32)).toNatClampNeg) s t) (fun v121 s118 t119 => (px_gd ((vp_in (m4 + (1 : Int32)) K.1) ∧ (vp_in (m4 + (2 : Int32)) K.1)) (px_gd ((vp_in (m4 + (3 : Int32)) K.1) ∧ (vp_in (m4 + (4 : Int32)) K.1)) (px_bi (f_M_move_28 K N (K.2.1 (m4 + (1 : Int32)).toNatClampNeg) (K.2.1 (m4 + (2 : Int32)).toNatClampNeg) (K.2.1 (m4 + (3 : Int32)).toNatClampNeg) (K.2.1 (m4 + (4 : Int32)).toNatClampNeg) s118 t119) (fun v130 s127 t128 => (if v121 = v130 then (l_L_law_31 K N n (m4 + (5 : Int32)) s127 t128) else (some (.inl (296, [], s127, t128))))) (fun x131 s127 t128 => none))))) (fun x122 s118 t119 => none)))) else (if ((K.2.1 m4.toNatClampNeg) &&& (31 : Int32)).toInt = 7 then (px_gd ((vp_in (m4 + (1 : Int32)) K.1) ∧ (vp_in (m4 + (2 : Int32)) K.1)) (px_bi (f_E_inode_1 K N (K.2.1 (m4 + (1 : Int32)).toNatClampNeg) (K.2.1 (m4 + (2 : Int32)).toNatClampNeg) s t) (fun v139 s136 t137 => (px_gd ((vp_in (m4 + (1 : Int32)) K.1) ∧ (vp_in (m4 + (2 : Int32)) K.1)) (px_bi (f_M_inode_28 K N (K.2.1 (m4 + (1 : Int32)).toNatClampNeg) (K.2.1 (m4 + (2 : Int32)).toNatClampNeg) s136 t137) (fun v146 s143 t144 => (if v139 = v146 then (l_L_law_31 K N n (m4 + (5 : Int32)) s143 t144) else (some (.inl (323, [], s143, t144))))) (fun x147 s143 t144 => none)))) (fun x140 s136 t137 => none))) else (if ((K.2.1 m4.toNatClampNeg) &&& (31 : Int32)).toInt = 8 then (px_gd ((vp_in (m4 + (1 : Int32)) K.1) ∧ (vp_in (m4 + (2 : Int32)) K.1)) (px_gd (vp_in (m4 + (3 : Int32)) K.1) (px_bi (f_E_entry_1 K N (K.2.1 (m4 + (1 : Int32)).toNatClampNeg) (K.2.1 (m4 + (2 : Int32)).toNatClampNeg) (K.2.1 (m4 + (3 : Int32)).toNatClampNeg) s t) (fun v156 s153 t154 => (px_gd ((vp_in (m4 + (1 : Int32)) K.1) ∧ (vp_in (m4 + (2 : Int32)) K.1)) (px_gd (vp_in (m4 + (3 : Int32)) K.1) (px_bi (f_M_entry_28 K N (K.2.1 (m4 + (1 : Int32)).toNatClampNeg) (K.2.1 (m4 + (2 : Int32)).toNatClampNeg) (K.2.1 (m4 + (3 : Int32)).toNatClampNeg) s153 t154) (fun v164 s161 t162 => (if v156 = v164 then (l_L_law_31 K N n (m4 + (5 : Int32)) s161 t162) else (some (.inl (360, [], s161, t162))))) (fun x165 s161 t162 => none))))) (fun x157 s153 t154 => none)))) else (if ((K.2.1 m4.toNatClampNeg) &&& (31 : Int32)).toInt = 9 then (px_bi (f_E_sync_1 K N s t) (fun v171 s168 t169 => (px_bi (f_M_sync_28 K N s168 t169) (fun v176 s173 t174 => (if v171 = v176 then (l_L_law_31 K N n (m4 + (5 : Int32)) s173 t174) else (some (.inl (367, [], s173, t174))))) (fun x177 s173 t174 => none))) (fun x172 s168 t169 => none)) else (if ((K.2.1 m4.toNatClampNeg) &&& (31 : Int32)).toInt = 10 then (px_bi (f_E_land_1 K N s t) (fun v183 s180 t181 => (px_bi (f_M_land_28 K N s180 t181) (fun v188 s185 t186 => (if v183 = v188 then (l_L_law_31 K N n (m4 + (5 : Int32)) s185 t186) else (some (.inl (374, [], s185, t186))))) (fun x189 s185 t186 => none))) (fun x184 s180 t181 => none)) else (if ((K.2.1 m4.toNatClampNeg) &&& (31 : Int32)).toInt = 11 then (px_bi (f_E_home_1 K N s t) (fun v195 s192 t193 => (px_bi (f_M_home_28 K N s192 t193) (fun v200 s197 t198 => (if v195 = v200 then (l_L_law_31 K N n (m4 + (5 : Int32)) s197 t198) else (some (.inl (381, [], s197, t198))))) (fun x201 s197 t198 => none))) (fun x196 s192 t193 => none)) else (if ((K.2.1 m4.toNatClampNeg) &&& (31 : Int32)).toInt = 12 then (px_gd ((vp_in (m4 + (1 : Int32)) K.1) ∧ (vp_in (m4 + (2 : Int32)) K.1)) (px_gd (vp_in (m4 + (3 : Int32)) K.1) (px_bi (f_E_limit_1 K N (K.2.1 (m4 + (1 : Int32)).toNatClampNeg) (((K.2.1 (m4 + (2 : Int32)).toNatClampNeg).toInt64 <<< ((32 : Int32).toInt64 &&& 63)) ||| ((K.2.1 (m4 + (3 : Int32)).toNatClampNeg).toInt64 &&& (4294967295 : Int64))) s t) (fun v210 s207 t208 => (px_gd ((vp_in (m4 + (1 : Int32)) K.1) ∧ (vp_in (m4 + (2 : Int32)) K.1)) (px_gd (vp_in (m4 + (3 : Int32)) K.1) (px_bi (f_M_limit_28 K N (K.2.1 (m4 + (1 : Int32)).toNatClampNeg) (((K.2.1 (m4 + (2 : Int32)).toNatClampNeg).toInt64 <<< ((32 : Int32).toInt64 &&& 63)) ||| ((K.2.1 (m4 + (3 : Int32)).toNatClampNeg).toInt64 &&& (4294967295 : Int64))) s207 t208) (fun v218 s215 t216 => (if v210 = v218 then (l_L_law_31 K N n (m4 + (5 : Int32)) s215 t216) else (some (.inl (432, [], s215, t216))))) (fun x219 s215 t216 => none))))) (fun x211 s207 t208 => none)))) else (if ((K.2.1 m4.toNatClampNeg) &&& (31 : Int32)).toInt = 13 then (px_gd (vp_in (m4 + (1 : Int32)) K.1) (px_gd (vp_in (m4 + (2 : Int32)) K.1) (px_bi (f_E_crash_1 K N (((K.2.1 (m4 + (1 : Int32)).toNatClampNeg).toInt64 <<< ((32 : Int32).toInt64 &&& 63)) ||| ((K.2.1 (m4 + (2 : Int32)).toNatClampNeg).toInt64 &&& (4294967295 : Int64))) s t) (fun v227 s224 t225 => (px_gd (vp_in (m4 + (1 : Int32)) K.1) (px_gd (vp_in (m4 + (2 : Int32)) K.1) (px_bi (f_M_crash_28 K N (((K.2.1 (m4 + (1 : Int32)).toNatClampNeg).toInt64 <<< ((32 : Int32).toInt64 &&& 63)) ||| ((K.2.1 (m4 + (2 : Int32)).toNatClampNeg).toInt64 &&& (4294967295 : Int64))) s224 t225) (fun v234 s231 t232 => (if v227 = v234 then (l_L_law_31 K N n (m4 + (5 : Int32)) s231 t232) else (some (.inl (473, [], s231, t232))))) (fun x235 s231 t232 => none))))) (fun x228 s224 t225 => none)))) else (if ((K.2.1 m4.toNatClampNeg) &&& (31 : Int32)).toInt = 14 then (px_gd (vp_in (m4 + (1 : Int32)) K.1) (px_gd (vp_in (m4 + (2 : Int32)) K.1) (px_bi (f_E_lose_1 K N (((K.2.1 (m4 + (1 : Int32)).toNatClampNeg).toInt64 <<< ((32 : Int32).toInt64 &&& 63)) ||| ((K.2.1 (m4 + (2 : Int32)).toNatClampNeg).toInt64 &&& (4294967295 : Int64))) s t) (fun v243 s240 t241 => (px_gd (vp_in (m4 + (1 : Int32)) K.1) (px_gd (vp_in (m4 + (2 : Int32)) K.1) (px_bi (f_M_lose_28 K N (((K.2.1 (m4 + (1 : Int32)).toNatClampNeg).toInt64 <<< ((32 : Int32).toInt64 &&& 63)) ||| ((K.2.1 (m4 + (2 : Int32)).toNatClampNeg).toInt64 &&& (4294967295 : Int64))) s240 t241) (fun v250 s247 t248 => (if v243 = v250 then (l_L_law_31 K N n (m4 + (5 : Int32)) s247 t248) else (some (.inl (514, [], s247, t248))))) (fun x251 s247 t248 => none))))) (fun x244 s240 t241 => none)))) else (if ((K.2.1 m4.toNatClampNeg) &&& (31 : Int32)).toInt = 15 then (px_gd (vp_in (m4 + (1 : Int32)) K.1) (px_gd ((vp_in (m4 + (2 : Int32)) K.1) ∧ (vp_in (m4 + (3 : Int32)) K.1)) (px_gd (vp_in (m4 + (4 : Int32)) K.1) (px_bi (f_E_mount_1 K N (if (K.2.1 (m4 + (1 : Int32)).toNatClampNeg) = 0 then (0 : Int32) else (1 : Int32)) (K.2.1 (m4 + (2 : Int32)).toNatClampNeg) (((K.2.1 (m4 + (3 : Int32)).toNatClampNeg).toInt64 <<< ((32 : Int32).toInt64 &&& 63)) ||| ((K.2.1 (m4 + (4 : Int32)).toNatClampNeg).toInt64 &&& (4294967295 : Int64))) s t) (fun v261 s258 t259 => (px_gd (vp_in (m4 + (1 : Int32)) K.1) (px_gd ((vp_in (m4 + (2 : Int32)) K.1) ∧ (vp_in (m4 + (3 : Int32)) K.1)) (px_gd (vp_in (m4 + (4 : Int32)) K.1) (px_bi (f_M_mount_28 K N (if (K.2.1 (m4 + (1 : Int32)).toNatClampNeg) = 0 then (0 : Int32) else (1 : Int32)) (K.2.1 (m4 + (2 : Int32)).toNatClampNeg) (((K.2.1 (m4 + (3 : Int32)).toNatClampNeg).toInt64 <<< ((32 : Int32).toInt64 &&& 63)) ||| ((K.2.1 (m4 + (4 : Int32)).toNatClampNeg).toInt64 &&& (4294967295 : Int64))) s258 t259) (fun v270 s267 t268 => (if v261 = v270 then (l_L_law_31 K N n (m4 + (5 : Int32)) s267 t268) else (some (.inl (583, [], s267, t268))))) (fun x271 s267 t268 => none)))))) (fun x262 s258 t259 => none))))) else (if ((K.2.1 m4.toNatClampNeg) &&& (31 : Int32)).toInt = 16 then (px_bi (f_E_attach_1 K N s t) (fun v279 s276 t277 => (px_bi (f_M_attach_28 K N s276 t277) (fun v284 s281 t282 => (if v279 = v284 then (l_L_law_31 K N n (m4 + (5 : Int32)) s281 t282) else (some (.inl (590, [], s281, t282))))) (fun x285 s281 t282 => none))) (fun x280 s276 t277 => none)) else (if ((K.2.1 m4.toNatClampNeg) &&& (31 : Int32)).toInt = 17 then (px_gd ((vp_in (m4 + (1 : Int32)) K.1) ∧ (vp_in (m4 + (2 : Int32)) K.1)) (px_bi (f_E_slot_1 K N (K.2.1 (m4 + (1 : Int32)).toNatClampNeg) (K.2.1 (m4 + (2 : Int32)).toNatClampNeg) s t) (fun v293 s290 t291 => (px_gd ((vp_in (m4 + (1 : Int32)) K.1) ∧ (vp_in (m4 + (2 : Int32)) K.1)) (px_bi (f_M_slot_28 K N (K.2.1 (m4 + (1 : Int32)).toNatClampNeg) (K.2.1 (m4 + (2 : Int32)).toNatClampNeg) s290 t291) (fun v300 s297 t298 => (if v293 = v300 then (l_L_law_31 K N n (m4 + (5 : Int32)) s297 t298) else (some (.inl (617, [], s297, t298))))) (fun x301 s297 t298 => none)))) (fun x294 s290 t291 => none))) else (if ((K.2.1 m4.toNatClampNeg) &&& (31 : Int32)).toInt = 18 then (px_gd ((vp_in (m4 + (1 : Int32)) K.1) ∧ (vp_in (m4 + (2 : Int32)) K.1)) (px_gd ((vp_in (m4 + (3 : Int32)) K.1) ∧ (vp_in (m4 + (4 : Int32)) K.1)) (px_bi (f_E_word_1 K N (K.2.1 (m4 + (1 : Int32)).toNatClampNeg) (K.2.1 (m4 + (2 : Int32)).toNatClampNeg) (K.2.1 (m4 + (3 : Int32)).toNatClampNeg) (if (K.2.1 (m4 + (4 : Int32)).toNatClampNeg) = 0 then (0 : Int32) else (1 : Int32)) s t) (fun v311 s308 t309 => (px_gd ((vp_in (m4 + (1 : Int32)) K.1) ∧ (vp_in (m4 + (2 : Int32)) K.1)) (px_gd ((vp_in (m4 + (3 : Int32)) K.1) ∧ (vp_in (m4 + (4 : Int32)) K.1)) (px_bi (f_M_word2_28 K N (K.2.1 (m4 + (1 : Int32)).toNatClampNeg) (K.2.1 (m4 + (2 : Int32)).toNatClampNeg) (K.2.1 (m4 + (3 : Int32)).toNatClampNeg) (if (K.2.1 (m4 + (4 : Int32)).toNatClampNeg) = 0 then (0 : Int32) else (1 : Int32)) s308 t309) (fun v320 s317 t318 => (if v311 = v320 then (l_L_law_31 K N n (m4 + (5 : Int32)) s317 t318) else (some (.inl (672, [], s317, t318))))) (fun x321 s317 t318 => none))))) (fun x312 s308 t309 => none)))) else (if ((K.2.1 m4.toNatClampNeg) &&& (31 : Int32)).toInt = 19 then (px_gd (vp_in (m4 + (1 : Int32)) K.1) (px_bi (f_E_count_1 K N (K.2.1 (m4 + (1 : Int32)).toNatClampNeg) s t) (fun v330 s327 t328 => (px_gd (vp_in (m4 + (1 : Int32)) K.1) (px_bi (f_M_count_28 K N (K.2.1 (m4 + (1 : Int32)).toNatClampNeg) s327 t328) (fun v336 s333 t334 => (if v330 = v336 then (l_L_law_31 K N n (m4 + (5 : Int32)) s333 t334) else (some (.inl (689, [], s333, t334))))) (fun x337 s333 t334 => none)))) (fun x331 s327 t328 => none))) else (l_L_law_31 K N n (m4 + (5 : Int32)) s t)))))))))))))))))))))))
def a_l_L_law_31 (K : px_K) (z : px_LO) (o : Option Value ⊕ Nat) (w2 : px_W) : Prop := match z with
  | .inr (o', s', t') => o = o' ∧ w2 = px_w K s' t'
  | .inl (86, [], s', t') => px_E px_ET px_P 38 207 86 [none, none, none, none, none, none, none] [] (px_w K s' t') o w2
  | .inl (113, [], s', t') => px_E px_ET px_P 38 207 113 [none, none, none, none, none, none, none] [] (px_w K s' t') o w2
  | .inl (150, [], s', t') => px_E px_ET px_P 38 207 150 [none, none, none, none, none, none, none] [] (px_w K s' t') o w2
  | .inl (183, [], s', t') => px_E px_ET px_P 38 207 183 [none, none, none, none, none, none, none] [] (px_w K s' t') o w2
  | .inl (194, [], s', t') => px_E px_ET px_P 38 207 194 [none, none, none, none, none, none, none] [] (px_w K s' t') o w2
  | .inl (222, [], s', t') => px_E px_ET px_P 38 207 222 [none, none, none, none, none, none, none] [] (px_w K s' t') o w2
  | .inl (249, [], s', t') => px_E px_ET px_P 38 207 249 [none, none, none, none, none, none, none] [] (px_w K s' t') o w2
  | .inl (296, [], s', t') => px_E px_ET px_P 38 207 296 [none, none, none, none, none, none, none] [] (px_w K s' t') o w2
  | .inl (323, [], s', t') => px_E px_ET px_P 38 207 323 [none, none, none, none, none, none, none] [] (px_w K s' t') o w2
  | .inl (360, [], s', t') => px_E px_ET px_P 38 207 360 [none, none, none, none, none, none, none] [] (px_w K s' t') o w2
  | .inl (367, [], s', t') => px_E px_ET px_P 38 207 367 [none, none, none, none, none, none, none] [] (px_w K s' t') o w2
  | .inl (374, [], s', t') => px_E px_ET px_P 38 207 374 [none, none, none, none, none, none, none] [] (px_w K s' t') o w2
  | .inl (381, [], s', t') => px_E px_ET px_P 38 207 381 [none, none, none, none, none, none, none] [] (px_w K s' t') o w2
  | .inl (432, [], s', t') => px_E px_ET px_P 38 207 432 [none, none, none, none, none, none, none] [] (px_w K s' t') o w2
  | .inl (473, [], s', t') => px_E px_ET px_P 38 207 473 [none, none, none, none, none, none, none] [] (px_w K s' t') o w2
  | .inl (514, [], s', t') => px_E px_ET px_P 38 207 514 [none, none, none, none, none, none, none] [] (px_w K s' t') o w2
  | .inl (583, [], s', t') => px_E px_ET px_P 38 207 583 [none, none, none, none, none, none, none] [] (px_w K s' t') o w2
  | .inl (590, [], s', t') => px_E px_ET px_P 38 207 590 [none, none, none, none, none, none, none] [] (px_w K s' t') o w2
  | .inl (617, [], s', t') => px_E px_ET px_P 38 207 617 [none, none, none, none, none, none, none] [] (px_w K s' t') o w2
  | .inl (672, [], s', t') => px_E px_ET px_P 38 207 672 [none, none, none, none, none, none, none] [] (px_w K s' t') o w2
  | .inl (689, [], s', t') => px_E px_ET px_P 38 207 689 [none, none, none, none, none, none, none] [] (px_w K s' t') o w2
  | .inl (693, [], s', t') => px_E px_ET px_P 38 207 693 [none, none, none, none, none, none, none] [] (px_w K s' t') o w2
  | _ => False
set_option maxRecDepth 100000 in
theorem e_l_L_law_31 (K : px_K) (N : Nat) : ∀ (n : Nat) (m4 : Int32) (s : px_S) (t : px_W) (z : px_LO), l_L_law_31 K N n m4 s t = some z → ∀ (o : Option Value ⊕ Nat) (w2 : px_W), a_l_L_law_31 K z o w2 → px_E px_ET px_P 38 207 31 [some (.ref 0), some (.ref 1), some (.ref 28), some (.ref 46), some (.int m4), none, none] [] (px_w K s t) o w2 := by
  have hM : px_P[207]? = some pm_L_law := rfl
  intro n
  induction n with
  | zero => intro m4 s t z h; cases h
  | succ n ih =>
    intro m4 s t z h o w2 ha
    unfold l_L_law_31 at h
    refine px_blkif (c := ((Int32.ofNat K.1) - (5 : Int32)) < m4) (t := 693) (e := 37) (L' := [some (.ref 0), some (.ref 1), some (.ref 28), some (.ref 46), some (.int m4), none, none]) (S' := []) (w' := px_w K s t) (q := []) 6 hM rfl trivial (fun hc1 => ?_) (fun hc1 => ?_)
    · rw [if_pos hc1] at h
      cases h
      exact px_E_le (px_leC_L _ _ (by simp [px_leC, px_le1, Value.category])) ha
    · rw [if_neg hc1] at h
      obtain ⟨hq2, h⟩ := px_gd_some h
      refine px_blk (i' := 42) (L' := [some (.ref 0), some (.ref 1), some (.ref 28), some (.ref 46), some (.int m4), none, none]) (S' := [.int ((K.2.1 m4.toNatClampNeg) &&& (31 : Int32))]) (w' := px_w K s t) (q := [vp_in m4 K.1]) 5 hM rfl (show vp_in m4 K.1 from hq2) ?_
      by_cases hs3 : ((K.2.1 m4.toNatClampNeg) &&& (31 : Int32)).toInt = 0
      · rw [if_pos hs3] at h
        refine px_E_step hM rfl rfl (px_tb_at hs3 rfl) trivial ?_
        obtain ⟨⟨hq4, hq5⟩, h⟩ := px_gd_some h
        refine px_blk (i' := 55) (L' := [some (.ref 0), some (.ref 1), some (.ref 28), some (.ref 46), some (.int m4), none, none]) (S' := [.ref 0, .int (K.2.1 (m4 + (2 : Int32)).toNatClampNeg), .int (K.2.1 (m4 + (1 : Int32)).toNatClampNeg), .ref 1]) (w' := px_w K s t) (q := [vp_in (m4 + (1 : Int32)) K.1, vp_in (m4 + (2 : Int32)) K.1]) 12 hM rfl (show (vp_in (m4 + (1 : Int32)) K.1) ∧ (vp_in (m4 + (2 : Int32)) K.1) from ⟨hq4, hq5⟩) ?_
        obtain ⟨hq6, h⟩ := px_gd_some h
        refine px_blk (i' := 59) (L' := [some (.ref 0), some (.ref 1), some (.ref 28), some (.ref 46), some (.int m4), none, none]) (S' := [.int (K.2.1 (m4 + (3 : Int32)).toNatClampNeg), .int (K.2.1 (m4 + (2 : Int32)).toNatClampNeg), .int (K.2.1 (m4 + (1 : Int32)).toNatClampNeg), .ref 1]) (w' := px_w K s t) (q := [vp_in (m4 + (3 : Int32)) K.1]) 4 hM rfl (show vp_in (m4 + (3 : Int32)) K.1 from hq6) ?_
        have hK : px_E px_ET px_P 38 207 63 [some (.ref 0), some (.ref 1), some (.ref 28), some (.ref 46), some (.int m4), none, none] [.int (if (K.2.1 (m4 + (3 : Int32)).toNatClampNeg) = 0 then (0 : Int32) else (1 : Int32)), .int (K.2.1 (m4 + (2 : Int32)).toNatClampNeg), .int (K.2.1 (m4 + (1 : Int32)).toNatClampNeg), .ref 1] (px_w K s t) o w2 := by
          rcases px_bi_some h with ⟨v10, s7, t8, hk9, h⟩ | ⟨x11, s7, t8, hk9, h⟩
          · refine px_E_call hM rfl rfl rfl rfl (px_E_mono (by decide) (e_E_make_1 K N (K.2.1 (m4 + (1 : Int32)).toNatClampNeg) (K.2.1 (m4 + (2 : Int32)).toNatClampNeg) (if (K.2.1 (m4 + (3 : Int32)).toNatClampNeg) = 0 then (0 : Int32) else (1 : Int32)) s t _ hk9)) ?_
            obtain ⟨⟨hq12, hq13⟩, h⟩ := px_gd_some h
            refine px_blk (i' := 76) (L' := [some (.ref 0), some (.ref 1), some (.ref 28), some (.ref 46), some (.int m4), none, none]) (S' := [.ref 0, .int (K.2.1 (m4 + (2 : Int32)).toNatClampNeg), .int (K.2.1 (m4 + (1 : Int32)).toNatClampNeg), .ref 28, .int v10]) (w' := px_w K s7 t8) (q := [vp_in (m4 + (1 : Int32)) K.1, vp_in (m4 + (2 : Int32)) K.1]) 12 hM rfl (show (vp_in (m4 + (1 : Int32)) K.1) ∧ (vp_in (m4 + (2 : Int32)) K.1) from ⟨hq12, hq13⟩) ?_
            obtain ⟨hq14, h⟩ := px_gd_some h
            refine px_blk (i' := 80) (L' := [some (.ref 0), some (.ref 1), some (.ref 28), some (.ref 46), some (.int m4), none, none]) (S' := [.int (K.2.1 (m4 + (3 : Int32)).toNatClampNeg), .int (K.2.1 (m4 + (2 : Int32)).toNatClampNeg), .int (K.2.1 (m4 + (1 : Int32)).toNatClampNeg), .ref 28, .int v10]) (w' := px_w K s7 t8) (q := [vp_in (m4 + (3 : Int32)) K.1]) 4 hM rfl (show vp_in (m4 + (3 : Int32)) K.1 from hq14) ?_
            have hK : px_E px_ET px_P 38 207 84 [some (.ref 0), some (.ref 1), some (.ref 28), some (.ref 46), some (.int m4), none, none] [.int (if (K.2.1 (m4 + (3 : Int32)).toNatClampNeg) = 0 then (0 : Int32) else (1 : Int32)), .int (K.2.1 (m4 + (2 : Int32)).toNatClampNeg), .int (K.2.1 (m4 + (1 : Int32)).toNatClampNeg), .ref 28, .int v10] (px_w K s7 t8) o w2 := by
              rcases px_bi_some h with ⟨v18, s15, t16, hk17, h⟩ | ⟨x19, s15, t16, hk17, h⟩
              · refine px_E_call hM rfl rfl rfl rfl (px_E_mono (by decide) (e_M_make_28 K N (K.2.1 (m4 + (1 : Int32)).toNatClampNeg) (K.2.1 (m4 + (2 : Int32)).toNatClampNeg) (if (K.2.1 (m4 + (3 : Int32)).toNatClampNeg) = 0 then (0 : Int32) else (1 : Int32)) s7 t8 _ hk17)) ?_
                refine px_blkif (c := v10 = v18) (t := 691) (e := 86) (L' := [some (.ref 0), some (.ref 1), some (.ref 28), some (.ref 46), some (.int m4), none, none]) (S' := []) (w' := px_w K s15 t16) (q := []) 1 hM rfl trivial (fun hc20 => ?_) (fun hc20 => ?_)
                · rw [if_pos hc20] at h
                  refine px_blk (i' := 31) (L' := [some (.ref 0), some (.ref 1), some (.ref 28), some (.ref 46), some (.int (m4 + (5 : Int32))), none, none]) (S' := []) (w' := px_w K s15 t16) (q := []) 2 hM rfl trivial ?_
                  exact ih (m4 + (5 : Int32)) s15 t16 z h o w2 ha
                · rw [if_neg hc20] at h
                  cases h
                  exact px_E_le (px_leC_L _ _ (by simp [px_leC, px_le1, Value.category])) ha
              · cases h
            clear h
            refine px_blkif (c := (K.2.1 (m4 + (3 : Int32)).toNatClampNeg) = 0) (t := 83) (e := 81) (L' := [some (.ref 0), some (.ref 1), some (.ref 28), some (.ref 46), some (.int m4), none, none]) (S' := [.int (K.2.1 (m4 + (2 : Int32)).toNatClampNeg), .int (K.2.1 (m4 + (1 : Int32)).toNatClampNeg), .ref 28, .int v10]) (w' := px_w K s7 t8) (q := []) 1 hM rfl trivial (fun hc21 => ?_) (fun hc21 => ?_)
            · rw [if_pos hc21] at hK
              exact px_blk (i' := 84) (L' := [some (.ref 0), some (.ref 1), some (.ref 28), some (.ref 46), some (.int m4), none, none]) (S' := [.int (0 : Int32), .int (K.2.1 (m4 + (2 : Int32)).toNatClampNeg), .int (K.2.1 (m4 + (1 : Int32)).toNatClampNeg), .ref 28, .int v10]) (w' := px_w K s7 t8) (q := []) 1 hM rfl trivial hK
            · rw [if_neg hc21] at hK
              exact px_blk (i' := 84) (L' := [some (.ref 0), some (.ref 1), some (.ref 28), some (.ref 46), some (.int m4), none, none]) (S' := [.int (1 : Int32), .int (K.2.1 (m4 + (2 : Int32)).toNatClampNeg), .int (K.2.1 (m4 + (1 : Int32)).toNatClampNeg), .ref 28, .int v10]) (w' := px_w K s7 t8) (q := []) 2 hM rfl trivial hK
          · cases h
        clear h
        refine px_blkif (c := (K.2.1 (m4 + (3 : Int32)).toNatClampNeg) = 0) (t := 62) (e := 60) (L' := [some (.ref 0), some (.ref 1), some (.ref 28), some (.ref 46), some (.int m4), none, none]) (S' := [.int (K.2.1 (m4 + (2 : Int32)).toNatClampNeg), .int (K.2.1 (m4 + (1 : Int32)).toNatClampNeg), .ref 1]) (w' := px_w K s t) (q := []) 1 hM rfl trivial (fun hc22 => ?_) (fun hc22 => ?_)
        · rw [if_pos hc22] at hK
          exact px_blk (i' := 63) (L' := [some (.ref 0), some (.ref 1), some (.ref 28), some (.ref 46), some (.int m4), none, none]) (S' := [.int (0 : Int32), .int (K.2.1 (m4 + (2 : Int32)).toNatClampNeg), .int (K.2.1 (m4 + (1 : Int32)).toNatClampNeg), .ref 1]) (w' := px_w K s t) (q := []) 1 hM rfl trivial hK
        · rw [if_neg hc22] at hK
          exact px_blk (i' := 63) (L' := [some (.ref 0), some (.ref 1), some (.ref 28), some (.ref 46), some (.int m4), none, none]) (S' := [.int (1 : Int32), .int (K.2.1 (m4 + (2 : Int32)).toNatClampNeg), .int (K.2.1 (m4 + (1 : Int32)).toNatClampNeg), .ref 1]) (w' := px_w K s t) (q := []) 2 hM rfl trivial hK
      · rw [if_neg hs3] at h
        by_cases hs23 : ((K.2.1 m4.toNatClampNeg) &&& (31 : Int32)).toInt = 1
        · rw [if_pos hs23] at h
          refine px_E_step hM rfl rfl (px_tb_at hs23 rfl) trivial ?_
          obtain ⟨⟨hq24, hq25⟩, h⟩ := px_gd_some h
          refine px_blk (i' := 99) (L' := [some (.ref 0), some (.ref 1), some (.ref 28), some (.ref 46), some (.int m4), none, none]) (S' := [.int (K.2.1 (m4 + (2 : Int32)).toNatClampNeg), .int (K.2.1 (m4 + (1 : Int32)).toNatClampNeg), .ref 1]) (w' := px_w K s t) (q := [vp_in (m4 + (1 : Int32)) K.1, vp_in (m4 + (2 : Int32)) K.1]) 11 hM rfl (show (vp_in (m4 + (1 : Int32)) K.1) ∧ (vp_in (m4 + (2 : Int32)) K.1) from ⟨hq24, hq25⟩) ?_
          rcases px_bi_some h with ⟨v29, s26, t27, hk28, h⟩ | ⟨x30, s26, t27, hk28, h⟩
          · refine px_E_call hM rfl rfl rfl rfl (px_E_mono (by decide) (e_E_find_1 K N (K.2.1 (m4 + (1 : Int32)).toNatClampNeg) (K.2.1 (m4 + (2 : Int32)).toNatClampNeg) s t _ hk28)) ?_
            obtain ⟨⟨hq31, hq32⟩, h⟩ := px_gd_some h
            refine px_blk (i' := 111) (L' := [some (.ref 0), some (.ref 1), some (.ref 28), some (.ref 46), some (.int m4), none, none]) (S' := [.int (K.2.1 (m4 + (2 : Int32)).toNatClampNeg), .int (K.2.1 (m4 + (1 : Int32)).toNatClampNeg), .ref 28, .int v29]) (w' := px_w K s26 t27) (q := [vp_in (m4 + (1 : Int32)) K.1, vp_in (m4 + (2 : Int32)) K.1]) 11 hM rfl (show (vp_in (m4 + (1 : Int32)) K.1) ∧ (vp_in (m4 + (2 : Int32)) K.1) from ⟨hq31, hq32⟩) ?_
            rcases px_bi_some h with ⟨v36, s33, t34, hk35, h⟩ | ⟨x37, s33, t34, hk35, h⟩
            · refine px_E_call hM rfl rfl rfl rfl (px_E_mono (by decide) (e_M_find2_28 K N (K.2.1 (m4 + (1 : Int32)).toNatClampNeg) (K.2.1 (m4 + (2 : Int32)).toNatClampNeg) s26 t27 _ hk35)) ?_
              refine px_blkif (c := v29 = v36) (t := 691) (e := 113) (L' := [some (.ref 0), some (.ref 1), some (.ref 28), some (.ref 46), some (.int m4), none, none]) (S' := []) (w' := px_w K s33 t34) (q := []) 1 hM rfl trivial (fun hc38 => ?_) (fun hc38 => ?_)
              · rw [if_pos hc38] at h
                refine px_blk (i' := 31) (L' := [some (.ref 0), some (.ref 1), some (.ref 28), some (.ref 46), some (.int (m4 + (5 : Int32))), none, none]) (S' := []) (w' := px_w K s33 t34) (q := []) 2 hM rfl trivial ?_
                exact ih (m4 + (5 : Int32)) s33 t34 z h o w2 ha
              · rw [if_neg hc38] at h
                cases h
                exact px_E_le (px_leC_L _ _ (by simp [px_leC, px_le1, Value.category])) ha
            · cases h
          · cases h
        · rw [if_neg hs23] at h
          by_cases hs39 : ((K.2.1 m4.toNatClampNeg) &&& (31 : Int32)).toInt = 2
          · rw [if_pos hs39] at h
            refine px_E_step hM rfl rfl (px_tb_at hs39 rfl) trivial ?_
            obtain ⟨⟨hq40, hq41⟩, h⟩ := px_gd_some h
            refine px_blk (i' := 127) (L' := [some (.ref 0), some (.ref 1), some (.ref 28), some (.ref 46), some (.int m4), none, none]) (S' := [.ref 0, .int (K.2.1 (m4 + (2 : Int32)).toNatClampNeg), .int (K.2.1 (m4 + (1 : Int32)).toNatClampNeg), .ref 1]) (w' := px_w K s t) (q := [vp_in (m4 + (1 : Int32)) K.1, vp_in (m4 + (2 : Int32)) K.1]) 12 hM rfl (show (vp_in (m4 + (1 : Int32)) K.1) ∧ (vp_in (m4 + (2 : Int32)) K.1) from ⟨hq40, hq41⟩) ?_
            obtain ⟨hq42, h⟩ := px_gd_some h
            refine px_blk (i' := 131) (L' := [some (.ref 0), some (.ref 1), some (.ref 28), some (.ref 46), some (.int m4), none, none]) (S' := [.int (K.2.1 (m4 + (3 : Int32)).toNatClampNeg), .int (K.2.1 (m4 + (2 : Int32)).toNatClampNeg), .int (K.2.1 (m4 + (1 : Int32)).toNatClampNeg), .ref 1]) (w' := px_w K s t) (q := [vp_in (m4 + (3 : Int32)) K.1]) 4 hM rfl (show vp_in (m4 + (3 : Int32)) K.1 from hq42) ?_
            rcases px_bi_some h with ⟨v46, s43, t44, hk45, h⟩ | ⟨x47, s43, t44, hk45, h⟩
            · refine px_E_call hM rfl rfl rfl rfl (px_E_mono (by decide) (e_E_write_1 K N (K.2.1 (m4 + (1 : Int32)).toNatClampNeg) (K.2.1 (m4 + (2 : Int32)).toNatClampNeg) (K.2.1 (m4 + (3 : Int32)).toNatClampNeg) s t _ hk45)) ?_
              obtain ⟨⟨hq48, hq49⟩, h⟩ := px_gd_some h
              refine px_blk (i' := 144) (L' := [some (.ref 0), some (.ref 1), some (.ref 28), some (.ref 46), some (.int m4), none, none]) (S' := [.ref 0, .int (K.2.1 (m4 + (2 : Int32)).toNatClampNeg), .int (K.2.1 (m4 + (1 : Int32)).toNatClampNeg), .ref 28, .int v46]) (w' := px_w K s43 t44) (q := [vp_in (m4 + (1 : Int32)) K.1, vp_in (m4 + (2 : Int32)) K.1]) 12 hM rfl (show (vp_in (m4 + (1 : Int32)) K.1) ∧ (vp_in (m4 + (2 : Int32)) K.1) from ⟨hq48, hq49⟩) ?_
              obtain ⟨hq50, h⟩ := px_gd_some h
              refine px_blk (i' := 148) (L' := [some (.ref 0), some (.ref 1), some (.ref 28), some (.ref 46), some (.int m4), none, none]) (S' := [.int (K.2.1 (m4 + (3 : Int32)).toNatClampNeg), .int (K.2.1 (m4 + (2 : Int32)).toNatClampNeg), .int (K.2.1 (m4 + (1 : Int32)).toNatClampNeg), .ref 28, .int v46]) (w' := px_w K s43 t44) (q := [vp_in (m4 + (3 : Int32)) K.1]) 4 hM rfl (show vp_in (m4 + (3 : Int32)) K.1 from hq50) ?_
              rcases px_bi_some h with ⟨v54, s51, t52, hk53, h⟩ | ⟨x55, s51, t52, hk53, h⟩
              · refine px_E_call hM rfl rfl rfl rfl (px_E_mono (by decide) (e_M_write2_28 K N (K.2.1 (m4 + (1 : Int32)).toNatClampNeg) (K.2.1 (m4 + (2 : Int32)).toNatClampNeg) (K.2.1 (m4 + (3 : Int32)).toNatClampNeg) s43 t44 _ hk53)) ?_
                refine px_blkif (c := v46 = v54) (t := 691) (e := 150) (L' := [some (.ref 0), some (.ref 1), some (.ref 28), some (.ref 46), some (.int m4), none, none]) (S' := []) (w' := px_w K s51 t52) (q := []) 1 hM rfl trivial (fun hc56 => ?_) (fun hc56 => ?_)
                · rw [if_pos hc56] at h
                  refine px_blk (i' := 31) (L' := [some (.ref 0), some (.ref 1), some (.ref 28), some (.ref 46), some (.int (m4 + (5 : Int32))), none, none]) (S' := []) (w' := px_w K s51 t52) (q := []) 2 hM rfl trivial ?_
                  exact ih (m4 + (5 : Int32)) s51 t52 z h o w2 ha
                · rw [if_neg hc56] at h
                  cases h
                  exact px_E_le (px_leC_L _ _ (by simp [px_leC, px_le1, Value.category])) ha
              · cases h
            · cases h
          · rw [if_neg hs39] at h
            by_cases hs57 : ((K.2.1 m4.toNatClampNeg) &&& (31 : Int32)).toInt = 3
            · rw [if_pos hs57] at h
              refine px_E_step hM rfl rfl (px_tb_at hs57 rfl) trivial ?_
              obtain ⟨⟨hq58, hq59⟩, h⟩ := px_gd_some h
              refine px_blk (i' := 164) (L' := [some (.ref 0), some (.ref 1), some (.ref 28), some (.ref 46), some (.int m4), none, none]) (S' := [.ref 46, .int (K.2.1 (m4 + (2 : Int32)).toNatClampNeg), .int (K.2.1 (m4 + (1 : Int32)).toNatClampNeg), .ref 1]) (w' := px_w K s t) (q := [vp_in (m4 + (1 : Int32)) K.1, vp_in (m4 + (2 : Int32)) K.1]) 12 hM rfl (show (vp_in (m4 + (1 : Int32)) K.1) ∧ (vp_in (m4 + (2 : Int32)) K.1) from ⟨hq58, hq59⟩) ?_
              rcases px_bi_some h with ⟨v63, s60, t61, hk62, h⟩ | ⟨x64, s60, t61, hk62, h⟩
              · refine px_E_call hM rfl rfl rfl rfl (px_E_mono (by decide) (e_L_read_1_46 K N (K.2.1 (m4 + (1 : Int32)).toNatClampNeg) (K.2.1 (m4 + (2 : Int32)).toNatClampNeg) s t _ hk62)) ?_
                obtain ⟨⟨hq65, hq66⟩, h⟩ := px_gd_some h
                refine px_blk (i' := 177) (L' := [some (.ref 0), some (.ref 1), some (.ref 28), some (.ref 46), some (.int m4), some (.int v63), none]) (S' := [.int (K.2.1 (m4 + (2 : Int32)).toNatClampNeg), .int (K.2.1 (m4 + (1 : Int32)).toNatClampNeg), .ref 28]) (w' := px_w K s60 t61) (q := [vp_in (m4 + (1 : Int32)) K.1, vp_in (m4 + (2 : Int32)) K.1]) 12 hM rfl (show (vp_in (m4 + (1 : Int32)) K.1) ∧ (vp_in (m4 + (2 : Int32)) K.1) from ⟨hq65, hq66⟩) ?_
                rcases px_bi_some h with ⟨v70, s67, t68, hk69, h⟩ | ⟨x71, s67, t68, hk69, h⟩
                · refine px_E_call hM rfl rfl rfl rfl (px_E_mono (by decide) (e_M_read2_28 K N (K.2.1 (m4 + (1 : Int32)).toNatClampNeg) (K.2.1 (m4 + (2 : Int32)).toNatClampNeg) s60 t61 _ hk69)) ?_
                  refine px_blk (i' := 180) (L' := [some (.ref 0), some (.ref 1), some (.ref 28), some (.ref 46), some (.int m4), some (.int v63), some (.int v70)]) (S' := [.ref 28]) (w' := px_w K s67 t68) (q := []) 2 hM rfl trivial ?_
                  rcases px_bi_some h with ⟨v75, s72, t73, hk74, h⟩ | ⟨x76, s72, t73, hk74, h⟩
                  · refine px_E_call hM rfl rfl rfl rfl (px_E_mono (by decide) (e_M_thrown_28 K N s67 t68 _ hk74)) ?_
                    refine px_blkif (c := v75 = v63) (t := 185) (e := 183) (L' := [some (.ref 0), some (.ref 1), some (.ref 28), some (.ref 46), some (.int m4), some (.int v63), some (.int v70)]) (S' := []) (w' := px_w K s72 t73) (q := []) 2 hM rfl trivial (fun hc77 => ?_) (fun hc77 => ?_)
                    · rw [if_pos hc77] at h
                      refine px_blkif (c := ¬ v63 = 0) (t := 196) (e := 187) (L' := [some (.ref 0), some (.ref 1), some (.ref 28), some (.ref 46), some (.int m4), some (.int v63), some (.int v70)]) (S' := []) (w' := px_w K s72 t73) (q := []) 2 hM rfl trivial (fun hc78 => ?_) (fun hc78 => ?_)
                      · rw [if_pos hc78] at h
                        refine px_blk (i' := 31) (L' := [some (.ref 0), some (.ref 1), some (.ref 28), some (.ref 46), some (.int (m4 + (5 : Int32))), some (.int v63), some (.int v70)]) (S' := []) (w' := px_w K s72 t73) (q := []) 3 hM rfl trivial ?_
                        exact px_E_le (px_leC_L _ _ (by simp [px_leC, px_le1, Value.category])) (ih (m4 + (5 : Int32)) s72 t73 z h o w2 ha)
                      · rw [if_neg hc78] at h
                        obtain ⟨hq79, h⟩ := px_gd_some h
                        refine px_blkif (c := (lg_cmp ((s72.2.2.2) (0 : Int32).toNatClampNeg) v70.toInt64) = 0) (t := 196) (e := 194) (L' := [some (.ref 0), some (.ref 1), some (.ref 28), some (.ref 46), some (.int m4), some (.int v63), some (.int v70)]) (S' := []) (w' := px_w K s72 t73) (q := [vp_in (0 : Int32) (K.2.2 46)]) 7 hM rfl (show vp_in (0 : Int32) (K.2.2 46) from hq79) (fun hc80 => ?_) (fun hc80 => ?_)
                        · rw [if_pos hc80] at h
                          refine px_blk (i' := 31) (L' := [some (.ref 0), some (.ref 1), some (.ref 28), some (.ref 46), some (.int (m4 + (5 : Int32))), some (.int v63), some (.int v70)]) (S' := []) (w' := px_w K s72 t73) (q := []) 3 hM rfl trivial ?_
                          exact px_E_le (px_leC_L _ _ (by simp [px_leC, px_le1, Value.category])) (ih (m4 + (5 : Int32)) s72 t73 z h o w2 ha)
                        · rw [if_neg hc80] at h
                          cases h
                          exact px_E_le (px_leC_L _ _ (by simp [px_leC, px_le1, Value.category])) ha
                    · rw [if_neg hc77] at h
                      cases h
                      exact px_E_le (px_leC_L _ _ (by simp [px_leC, px_le1, Value.category])) ha
                  · cases h
                · cases h
              · cases h
            · rw [if_neg hs57] at h
              by_cases hs81 : ((K.2.1 m4.toNatClampNeg) &&& (31 : Int32)).toInt = 4
              · rw [if_pos hs81] at h
                refine px_E_step hM rfl rfl (px_tb_at hs81 rfl) trivial ?_
                obtain ⟨⟨hq82, hq83⟩, h⟩ := px_gd_some h
                refine px_blk (i' := 208) (L' := [some (.ref 0), some (.ref 1), some (.ref 28), some (.ref 46), some (.int m4), none, none]) (S' := [.int (K.2.1 (m4 + (2 : Int32)).toNatClampNeg), .int (K.2.1 (m4 + (1 : Int32)).toNatClampNeg), .ref 1]) (w' := px_w K s t) (q := [vp_in (m4 + (1 : Int32)) K.1, vp_in (m4 + (2 : Int32)) K.1]) 11 hM rfl (show (vp_in (m4 + (1 : Int32)) K.1) ∧ (vp_in (m4 + (2 : Int32)) K.1) from ⟨hq82, hq83⟩) ?_
                rcases px_bi_some h with ⟨v87, s84, t85, hk86, h⟩ | ⟨x88, s84, t85, hk86, h⟩
                · refine px_E_call hM rfl rfl rfl rfl (px_E_mono (by decide) (e_E_cut_1 K N (K.2.1 (m4 + (1 : Int32)).toNatClampNeg) (K.2.1 (m4 + (2 : Int32)).toNatClampNeg) s t _ hk86)) ?_
                  obtain ⟨⟨hq89, hq90⟩, h⟩ := px_gd_some h
                  refine px_blk (i' := 220) (L' := [some (.ref 0), some (.ref 1), some (.ref 28), some (.ref 46), some (.int m4), none, none]) (S' := [.int (K.2.1 (m4 + (2 : Int32)).toNatClampNeg), .int (K.2.1 (m4 + (1 : Int32)).toNatClampNeg), .ref 28, .int v87]) (w' := px_w K s84 t85) (q := [vp_in (m4 + (1 : Int32)) K.1, vp_in (m4 + (2 : Int32)) K.1]) 11 hM rfl (show (vp_in (m4 + (1 : Int32)) K.1) ∧ (vp_in (m4 + (2 : Int32)) K.1) from ⟨hq89, hq90⟩) ?_
                  rcases px_bi_some h with ⟨v94, s91, t92, hk93, h⟩ | ⟨x95, s91, t92, hk93, h⟩
                  · refine px_E_call hM rfl rfl rfl rfl (px_E_mono (by decide) (e_M_cut_28 K N (K.2.1 (m4 + (1 : Int32)).toNatClampNeg) (K.2.1 (m4 + (2 : Int32)).toNatClampNeg) s84 t85 _ hk93)) ?_
                    refine px_blkif (c := v87 = v94) (t := 691) (e := 222) (L' := [some (.ref 0), some (.ref 1), some (.ref 28), some (.ref 46), some (.int m4), none, none]) (S' := []) (w' := px_w K s91 t92) (q := []) 1 hM rfl trivial (fun hc96 => ?_) (fun hc96 => ?_)
                    · rw [if_pos hc96] at h
                      refine px_blk (i' := 31) (L' := [some (.ref 0), some (.ref 1), some (.ref 28), some (.ref 46), some (.int (m4 + (5 : Int32))), none, none]) (S' := []) (w' := px_w K s91 t92) (q := []) 2 hM rfl trivial ?_
                      exact ih (m4 + (5 : Int32)) s91 t92 z h o w2 ha
                    · rw [if_neg hc96] at h
                      cases h
                      exact px_E_le (px_leC_L _ _ (by simp [px_leC, px_le1, Value.category])) ha
                  · cases h
                · cases h
              · rw [if_neg hs81] at h
                by_cases hs97 : ((K.2.1 m4.toNatClampNeg) &&& (31 : Int32)).toInt = 5
                · rw [if_pos hs97] at h
                  refine px_E_step hM rfl rfl (px_tb_at hs97 rfl) trivial ?_
                  obtain ⟨⟨hq98, hq99⟩, h⟩ := px_gd_some h
                  refine px_blk (i' := 235) (L' := [some (.ref 0), some (.ref 1), some (.ref 28), some (.ref 46), some (.int m4), none, none]) (S' := [.int (K.2.1 (m4 + (2 : Int32)).toNatClampNeg), .int (K.2.1 (m4 + (1 : Int32)).toNatClampNeg), .ref 1]) (w' := px_w K s t) (q := [vp_in (m4 + (1 : Int32)) K.1, vp_in (m4 + (2 : Int32)) K.1]) 11 hM rfl (show (vp_in (m4 + (1 : Int32)) K.1) ∧ (vp_in (m4 + (2 : Int32)) K.1) from ⟨hq98, hq99⟩) ?_
                  rcases px_bi_some h with ⟨v103, s100, t101, hk102, h⟩ | ⟨x104, s100, t101, hk102, h⟩
                  · refine px_E_call hM rfl rfl rfl rfl (px_E_mono (by decide) (e_E_remove_1 K N (K.2.1 (m4 + (1 : Int32)).toNatClampNeg) (K.2.1 (m4 + (2 : Int32)).toNatClampNeg) s t _ hk102)) ?_
                    obtain ⟨⟨hq105, hq106⟩, h⟩ := px_gd_some h
                    refine px_blk (i' := 247) (L' := [some (.ref 0), some (.ref 1), some (.ref 28), some (.ref 46), some (.int m4), none, none]) (S' := [.int (K.2.1 (m4 + (2 : Int32)).toNatClampNeg), .int (K.2.1 (m4 + (1 : Int32)).toNatClampNeg), .ref 28, .int v103]) (w' := px_w K s100 t101) (q := [vp_in (m4 + (1 : Int32)) K.1, vp_in (m4 + (2 : Int32)) K.1]) 11 hM rfl (show (vp_in (m4 + (1 : Int32)) K.1) ∧ (vp_in (m4 + (2 : Int32)) K.1) from ⟨hq105, hq106⟩) ?_
                    rcases px_bi_some h with ⟨v110, s107, t108, hk109, h⟩ | ⟨x111, s107, t108, hk109, h⟩
                    · refine px_E_call hM rfl rfl rfl rfl (px_E_mono (by decide) (e_M_remove_28 K N (K.2.1 (m4 + (1 : Int32)).toNatClampNeg) (K.2.1 (m4 + (2 : Int32)).toNatClampNeg) s100 t101 _ hk109)) ?_
                      refine px_blkif (c := v103 = v110) (t := 691) (e := 249) (L' := [some (.ref 0), some (.ref 1), some (.ref 28), some (.ref 46), some (.int m4), none, none]) (S' := []) (w' := px_w K s107 t108) (q := []) 1 hM rfl trivial (fun hc112 => ?_) (fun hc112 => ?_)
                      · rw [if_pos hc112] at h
                        refine px_blk (i' := 31) (L' := [some (.ref 0), some (.ref 1), some (.ref 28), some (.ref 46), some (.int (m4 + (5 : Int32))), none, none]) (S' := []) (w' := px_w K s107 t108) (q := []) 2 hM rfl trivial ?_
                        exact ih (m4 + (5 : Int32)) s107 t108 z h o w2 ha
                      · rw [if_neg hc112] at h
                        cases h
                        exact px_E_le (px_leC_L _ _ (by simp [px_leC, px_le1, Value.category])) ha
                    · cases h
                  · cases h
                · rw [if_neg hs97] at h
                  by_cases hs113 : ((K.2.1 m4.toNatClampNeg) &&& (31 : Int32)).toInt = 6
                  · rw [if_pos hs113] at h
                    refine px_E_step hM rfl rfl (px_tb_at hs113 rfl) trivial ?_
                    obtain ⟨⟨hq114, hq115⟩, h⟩ := px_gd_some h
                    refine px_blk (i' := 263) (L' := [some (.ref 0), some (.ref 1), some (.ref 28), some (.ref 46), some (.int m4), none, none]) (S' := [.ref 0, .int (K.2.1 (m4 + (2 : Int32)).toNatClampNeg), .int (K.2.1 (m4 + (1 : Int32)).toNatClampNeg), .ref 1]) (w' := px_w K s t) (q := [vp_in (m4 + (1 : Int32)) K.1, vp_in (m4 + (2 : Int32)) K.1]) 12 hM rfl (show (vp_in (m4 + (1 : Int32)) K.1) ∧ (vp_in (m4 + (2 : Int32)) K.1) from ⟨hq114, hq115⟩) ?_
                    obtain ⟨⟨hq116, hq117⟩, h⟩ := px_gd_some h
                    refine px_blk (i' := 272) (L' := [some (.ref 0), some (.ref 1), some (.ref 28), some (.ref 46), some (.int m4), none, none]) (S' := [.int (K.2.1 (m4 + (4 : Int32)).toNatClampNeg), .int (K.2.1 (m4 + (3 : Int32)).toNatClampNeg), .int (K.2.1 (m4 + (2 : Int32)).toNatClampNeg), .int (K.2.1 (m4 + (1 : Int32)).toNatClampNeg), .ref 1]) (w' := px_w K s t) (q := [vp_in (m4 + (3 : Int32)) K.1, vp_in (m4 + (4 : Int32)) K.1]) 9 hM rfl (show (vp_in (m4 + (3 : Int32)) K.1) ∧ (vp_in (m4 + (4 : Int32)) K.1) from ⟨hq116, hq117⟩) ?_
                    rcases px_bi_some h with ⟨v121, s118, t119, hk120, h⟩ | ⟨x122, s118, t119, hk120, h⟩
                    · refine px_E_call hM rfl rfl rfl rfl (px_E_mono (by decide) (e_E_move_1 K N (K.2.1 (m4 + (1 : Int32)).toNatClampNeg) (K.2.1 (m4 + (2 : Int32)).toNatClampNeg) (K.2.1 (m4 + (3 : Int32)).toNatClampNeg) (K.2.1 (m4 + (4 : Int32)).toNatClampNeg) s t _ hk120)) ?_
                      obtain ⟨⟨hq123, hq124⟩, h⟩ := px_gd_some h
                      refine px_blk (i' := 285) (L' := [some (.ref 0), some (.ref 1), some (.ref 28), some (.ref 46), some (.int m4), none, none]) (S' := [.ref 0, .int (K.2.1 (m4 + (2 : Int32)).toNatClampNeg), .int (K.2.1 (m4 + (1 : Int32)).toNatClampNeg), .ref 28, .int v121]) (w' := px_w K s118 t119) (q := [vp_in (m4 + (1 : Int32)) K.1, vp_in (m4 + (2 : Int32)) K.1]) 12 hM rfl (show (vp_in (m4 + (1 : Int32)) K.1) ∧ (vp_in (m4 + (2 : Int32)) K.1) from ⟨hq123, hq124⟩) ?_
                      obtain ⟨⟨hq125, hq126⟩, h⟩ := px_gd_some h
                      refine px_blk (i' := 294) (L' := [some (.ref 0), some (.ref 1), some (.ref 28), some (.ref 46), some (.int m4), none, none]) (S' := [.int (K.2.1 (m4 + (4 : Int32)).toNatClampNeg), .int (K.2.1 (m4 + (3 : Int32)).toNatClampNeg), .int (K.2.1 (m4 + (2 : Int32)).toNatClampNeg), .int (K.2.1 (m4 + (1 : Int32)).toNatClampNeg), .ref 28, .int v121]) (w' := px_w K s118 t119) (q := [vp_in (m4 + (3 : Int32)) K.1, vp_in (m4 + (4 : Int32)) K.1]) 9 hM rfl (show (vp_in (m4 + (3 : Int32)) K.1) ∧ (vp_in (m4 + (4 : Int32)) K.1) from ⟨hq125, hq126⟩) ?_
                      rcases px_bi_some h with ⟨v130, s127, t128, hk129, h⟩ | ⟨x131, s127, t128, hk129, h⟩
                      · refine px_E_call hM rfl rfl rfl rfl (px_E_mono (by decide) (e_M_move_28 K N (K.2.1 (m4 + (1 : Int32)).toNatClampNeg) (K.2.1 (m4 + (2 : Int32)).toNatClampNeg) (K.2.1 (m4 + (3 : Int32)).toNatClampNeg) (K.2.1 (m4 + (4 : Int32)).toNatClampNeg) s118 t119 _ hk129)) ?_
                        refine px_blkif (c := v121 = v130) (t := 691) (e := 296) (L' := [some (.ref 0), some (.ref 1), some (.ref 28), some (.ref 46), some (.int m4), none, none]) (S' := []) (w' := px_w K s127 t128) (q := []) 1 hM rfl trivial (fun hc132 => ?_) (fun hc132 => ?_)
                        · rw [if_pos hc132] at h
                          refine px_blk (i' := 31) (L' := [some (.ref 0), some (.ref 1), some (.ref 28), some (.ref 46), some (.int (m4 + (5 : Int32))), none, none]) (S' := []) (w' := px_w K s127 t128) (q := []) 2 hM rfl trivial ?_
                          exact ih (m4 + (5 : Int32)) s127 t128 z h o w2 ha
                        · rw [if_neg hc132] at h
                          cases h
                          exact px_E_le (px_leC_L _ _ (by simp [px_leC, px_le1, Value.category])) ha
                      · cases h
                    · cases h
                  · rw [if_neg hs113] at h
                    by_cases hs133 : ((K.2.1 m4.toNatClampNeg) &&& (31 : Int32)).toInt = 7
                    · rw [if_pos hs133] at h
                      refine px_E_step hM rfl rfl (px_tb_at hs133 rfl) trivial ?_
                      obtain ⟨⟨hq134, hq135⟩, h⟩ := px_gd_some h
                      refine px_blk (i' := 309) (L' := [some (.ref 0), some (.ref 1), some (.ref 28), some (.ref 46), some (.int m4), none, none]) (S' := [.int (K.2.1 (m4 + (2 : Int32)).toNatClampNeg), .int (K.2.1 (m4 + (1 : Int32)).toNatClampNeg), .ref 1]) (w' := px_w K s t) (q := [vp_in (m4 + (1 : Int32)) K.1, vp_in (m4 + (2 : Int32)) K.1]) 11 hM rfl (show (vp_in (m4 + (1 : Int32)) K.1) ∧ (vp_in (m4 + (2 : Int32)) K.1) from ⟨hq134, hq135⟩) ?_
                      rcases px_bi_some h with ⟨v139, s136, t137, hk138, h⟩ | ⟨x140, s136, t137, hk138, h⟩
                      · refine px_E_call hM rfl rfl rfl rfl (px_E_mono (by decide) (e_E_inode_1 K N (K.2.1 (m4 + (1 : Int32)).toNatClampNeg) (K.2.1 (m4 + (2 : Int32)).toNatClampNeg) s t _ hk138)) ?_
                        obtain ⟨⟨hq141, hq142⟩, h⟩ := px_gd_some h
                        refine px_blk (i' := 321) (L' := [some (.ref 0), some (.ref 1), some (.ref 28), some (.ref 46), some (.int m4), none, none]) (S' := [.int (K.2.1 (m4 + (2 : Int32)).toNatClampNeg), .int (K.2.1 (m4 + (1 : Int32)).toNatClampNeg), .ref 28, .int v139]) (w' := px_w K s136 t137) (q := [vp_in (m4 + (1 : Int32)) K.1, vp_in (m4 + (2 : Int32)) K.1]) 11 hM rfl (show (vp_in (m4 + (1 : Int32)) K.1) ∧ (vp_in (m4 + (2 : Int32)) K.1) from ⟨hq141, hq142⟩) ?_
                        rcases px_bi_some h with ⟨v146, s143, t144, hk145, h⟩ | ⟨x147, s143, t144, hk145, h⟩
                        · refine px_E_call hM rfl rfl rfl rfl (px_E_mono (by decide) (e_M_inode_28 K N (K.2.1 (m4 + (1 : Int32)).toNatClampNeg) (K.2.1 (m4 + (2 : Int32)).toNatClampNeg) s136 t137 _ hk145)) ?_
                          refine px_blkif (c := v139 = v146) (t := 691) (e := 323) (L' := [some (.ref 0), some (.ref 1), some (.ref 28), some (.ref 46), some (.int m4), none, none]) (S' := []) (w' := px_w K s143 t144) (q := []) 1 hM rfl trivial (fun hc148 => ?_) (fun hc148 => ?_)
                          · rw [if_pos hc148] at h
                            refine px_blk (i' := 31) (L' := [some (.ref 0), some (.ref 1), some (.ref 28), some (.ref 46), some (.int (m4 + (5 : Int32))), none, none]) (S' := []) (w' := px_w K s143 t144) (q := []) 2 hM rfl trivial ?_
                            exact ih (m4 + (5 : Int32)) s143 t144 z h o w2 ha
                          · rw [if_neg hc148] at h
                            cases h
                            exact px_E_le (px_leC_L _ _ (by simp [px_leC, px_le1, Value.category])) ha
                        · cases h
                      · cases h
                    · rw [if_neg hs133] at h
                      by_cases hs149 : ((K.2.1 m4.toNatClampNeg) &&& (31 : Int32)).toInt = 8
                      · rw [if_pos hs149] at h
                        refine px_E_step hM rfl rfl (px_tb_at hs149 rfl) trivial ?_
                        obtain ⟨⟨hq150, hq151⟩, h⟩ := px_gd_some h
                        refine px_blk (i' := 337) (L' := [some (.ref 0), some (.ref 1), some (.ref 28), some (.ref 46), some (.int m4), none, none]) (S' := [.ref 0, .int (K.2.1 (m4 + (2 : Int32)).toNatClampNeg), .int (K.2.1 (m4 + (1 : Int32)).toNatClampNeg), .ref 1]) (w' := px_w K s t) (q := [vp_in (m4 + (1 : Int32)) K.1, vp_in (m4 + (2 : Int32)) K.1]) 12 hM rfl (show (vp_in (m4 + (1 : Int32)) K.1) ∧ (vp_in (m4 + (2 : Int32)) K.1) from ⟨hq150, hq151⟩) ?_
                        obtain ⟨hq152, h⟩ := px_gd_some h
                        refine px_blk (i' := 341) (L' := [some (.ref 0), some (.ref 1), some (.ref 28), some (.ref 46), some (.int m4), none, none]) (S' := [.int (K.2.1 (m4 + (3 : Int32)).toNatClampNeg), .int (K.2.1 (m4 + (2 : Int32)).toNatClampNeg), .int (K.2.1 (m4 + (1 : Int32)).toNatClampNeg), .ref 1]) (w' := px_w K s t) (q := [vp_in (m4 + (3 : Int32)) K.1]) 4 hM rfl (show vp_in (m4 + (3 : Int32)) K.1 from hq152) ?_
                        rcases px_bi_some h with ⟨v156, s153, t154, hk155, h⟩ | ⟨x157, s153, t154, hk155, h⟩
                        · refine px_E_call hM rfl rfl rfl rfl (px_E_mono (by decide) (e_E_entry_1 K N (K.2.1 (m4 + (1 : Int32)).toNatClampNeg) (K.2.1 (m4 + (2 : Int32)).toNatClampNeg) (K.2.1 (m4 + (3 : Int32)).toNatClampNeg) s t _ hk155)) ?_
                          obtain ⟨⟨hq158, hq159⟩, h⟩ := px_gd_some h
                          refine px_blk (i' := 354) (L' := [some (.ref 0), some (.ref 1), some (.ref 28), some (.ref 46), some (.int m4), none, none]) (S' := [.ref 0, .int (K.2.1 (m4 + (2 : Int32)).toNatClampNeg), .int (K.2.1 (m4 + (1 : Int32)).toNatClampNeg), .ref 28, .int v156]) (w' := px_w K s153 t154) (q := [vp_in (m4 + (1 : Int32)) K.1, vp_in (m4 + (2 : Int32)) K.1]) 12 hM rfl (show (vp_in (m4 + (1 : Int32)) K.1) ∧ (vp_in (m4 + (2 : Int32)) K.1) from ⟨hq158, hq159⟩) ?_
                          obtain ⟨hq160, h⟩ := px_gd_some h
                          refine px_blk (i' := 358) (L' := [some (.ref 0), some (.ref 1), some (.ref 28), some (.ref 46), some (.int m4), none, none]) (S' := [.int (K.2.1 (m4 + (3 : Int32)).toNatClampNeg), .int (K.2.1 (m4 + (2 : Int32)).toNatClampNeg), .int (K.2.1 (m4 + (1 : Int32)).toNatClampNeg), .ref 28, .int v156]) (w' := px_w K s153 t154) (q := [vp_in (m4 + (3 : Int32)) K.1]) 4 hM rfl (show vp_in (m4 + (3 : Int32)) K.1 from hq160) ?_
                          rcases px_bi_some h with ⟨v164, s161, t162, hk163, h⟩ | ⟨x165, s161, t162, hk163, h⟩
                          · refine px_E_call hM rfl rfl rfl rfl (px_E_mono (by decide) (e_M_entry_28 K N (K.2.1 (m4 + (1 : Int32)).toNatClampNeg) (K.2.1 (m4 + (2 : Int32)).toNatClampNeg) (K.2.1 (m4 + (3 : Int32)).toNatClampNeg) s153 t154 _ hk163)) ?_
                            refine px_blkif (c := v156 = v164) (t := 691) (e := 360) (L' := [some (.ref 0), some (.ref 1), some (.ref 28), some (.ref 46), some (.int m4), none, none]) (S' := []) (w' := px_w K s161 t162) (q := []) 1 hM rfl trivial (fun hc166 => ?_) (fun hc166 => ?_)
                            · rw [if_pos hc166] at h
                              refine px_blk (i' := 31) (L' := [some (.ref 0), some (.ref 1), some (.ref 28), some (.ref 46), some (.int (m4 + (5 : Int32))), none, none]) (S' := []) (w' := px_w K s161 t162) (q := []) 2 hM rfl trivial ?_
                              exact ih (m4 + (5 : Int32)) s161 t162 z h o w2 ha
                            · rw [if_neg hc166] at h
                              cases h
                              exact px_E_le (px_leC_L _ _ (by simp [px_leC, px_le1, Value.category])) ha
                          · cases h
                        · cases h
                      · rw [if_neg hs149] at h
                        by_cases hs167 : ((K.2.1 m4.toNatClampNeg) &&& (31 : Int32)).toInt = 9
                        · rw [if_pos hs167] at h
                          refine px_E_step hM rfl rfl (px_tb_at hs167 rfl) trivial ?_
                          refine px_blk (i' := 363) (L' := [some (.ref 0), some (.ref 1), some (.ref 28), some (.ref 46), some (.int m4), none, none]) (S' := [.ref 1]) (w' := px_w K s t) (q := []) 1 hM rfl trivial ?_
                          rcases px_bi_some h with ⟨v171, s168, t169, hk170, h⟩ | ⟨x172, s168, t169, hk170, h⟩
                          · refine px_E_call hM rfl rfl rfl rfl (px_E_mono (by decide) (e_E_sync_1 K N s t _ hk170)) ?_
                            refine px_blk (i' := 365) (L' := [some (.ref 0), some (.ref 1), some (.ref 28), some (.ref 46), some (.int m4), none, none]) (S' := [.ref 28, .int v171]) (w' := px_w K s168 t169) (q := []) 1 hM rfl trivial ?_
                            rcases px_bi_some h with ⟨v176, s173, t174, hk175, h⟩ | ⟨x177, s173, t174, hk175, h⟩
                            · refine px_E_call hM rfl rfl rfl rfl (px_E_mono (by decide) (e_M_sync_28 K N s168 t169 _ hk175)) ?_
                              refine px_blkif (c := v171 = v176) (t := 691) (e := 367) (L' := [some (.ref 0), some (.ref 1), some (.ref 28), some (.ref 46), some (.int m4), none, none]) (S' := []) (w' := px_w K s173 t174) (q := []) 1 hM rfl trivial (fun hc178 => ?_) (fun hc178 => ?_)
                              · rw [if_pos hc178] at h
                                refine px_blk (i' := 31) (L' := [some (.ref 0), some (.ref 1), some (.ref 28), some (.ref 46), some (.int (m4 + (5 : Int32))), none, none]) (S' := []) (w' := px_w K s173 t174) (q := []) 2 hM rfl trivial ?_
                                exact ih (m4 + (5 : Int32)) s173 t174 z h o w2 ha
                              · rw [if_neg hc178] at h
                                cases h
                                exact px_E_le (px_leC_L _ _ (by simp [px_leC, px_le1, Value.category])) ha
                            · cases h
                          · cases h
                        · rw [if_neg hs167] at h
                          by_cases hs179 : ((K.2.1 m4.toNatClampNeg) &&& (31 : Int32)).toInt = 10
                          · rw [if_pos hs179] at h
                            refine px_E_step hM rfl rfl (px_tb_at hs179 rfl) trivial ?_
                            refine px_blk (i' := 370) (L' := [some (.ref 0), some (.ref 1), some (.ref 28), some (.ref 46), some (.int m4), none, none]) (S' := [.ref 1]) (w' := px_w K s t) (q := []) 1 hM rfl trivial ?_
                            rcases px_bi_some h with ⟨v183, s180, t181, hk182, h⟩ | ⟨x184, s180, t181, hk182, h⟩
                            · refine px_E_call hM rfl rfl rfl rfl (px_E_mono (by decide) (e_E_land_1 K N s t _ hk182)) ?_
                              refine px_blk (i' := 372) (L' := [some (.ref 0), some (.ref 1), some (.ref 28), some (.ref 46), some (.int m4), none, none]) (S' := [.ref 28, .int v183]) (w' := px_w K s180 t181) (q := []) 1 hM rfl trivial ?_
                              rcases px_bi_some h with ⟨v188, s185, t186, hk187, h⟩ | ⟨x189, s185, t186, hk187, h⟩
                              · refine px_E_call hM rfl rfl rfl rfl (px_E_mono (by decide) (e_M_land_28 K N s180 t181 _ hk187)) ?_
                                refine px_blkif (c := v183 = v188) (t := 691) (e := 374) (L' := [some (.ref 0), some (.ref 1), some (.ref 28), some (.ref 46), some (.int m4), none, none]) (S' := []) (w' := px_w K s185 t186) (q := []) 1 hM rfl trivial (fun hc190 => ?_) (fun hc190 => ?_)
                                · rw [if_pos hc190] at h
                                  refine px_blk (i' := 31) (L' := [some (.ref 0), some (.ref 1), some (.ref 28), some (.ref 46), some (.int (m4 + (5 : Int32))), none, none]) (S' := []) (w' := px_w K s185 t186) (q := []) 2 hM rfl trivial ?_
                                  exact ih (m4 + (5 : Int32)) s185 t186 z h o w2 ha
                                · rw [if_neg hc190] at h
                                  cases h
                                  exact px_E_le (px_leC_L _ _ (by simp [px_leC, px_le1, Value.category])) ha
                              · cases h
                            · cases h
                          · rw [if_neg hs179] at h
                            by_cases hs191 : ((K.2.1 m4.toNatClampNeg) &&& (31 : Int32)).toInt = 11
                            · rw [if_pos hs191] at h
                              refine px_E_step hM rfl rfl (px_tb_at hs191 rfl) trivial ?_
                              refine px_blk (i' := 377) (L' := [some (.ref 0), some (.ref 1), some (.ref 28), some (.ref 46), some (.int m4), none, none]) (S' := [.ref 1]) (w' := px_w K s t) (q := []) 1 hM rfl trivial ?_
                              rcases px_bi_some h with ⟨v195, s192, t193, hk194, h⟩ | ⟨x196, s192, t193, hk194, h⟩
                              · refine px_E_call hM rfl rfl rfl rfl (px_E_mono (by decide) (e_E_home_1 K N s t _ hk194)) ?_
                                refine px_blk (i' := 379) (L' := [some (.ref 0), some (.ref 1), some (.ref 28), some (.ref 46), some (.int m4), none, none]) (S' := [.ref 28, .int v195]) (w' := px_w K s192 t193) (q := []) 1 hM rfl trivial ?_
                                rcases px_bi_some h with ⟨v200, s197, t198, hk199, h⟩ | ⟨x201, s197, t198, hk199, h⟩
                                · refine px_E_call hM rfl rfl rfl rfl (px_E_mono (by decide) (e_M_home_28 K N s192 t193 _ hk199)) ?_
                                  refine px_blkif (c := v195 = v200) (t := 691) (e := 381) (L' := [some (.ref 0), some (.ref 1), some (.ref 28), some (.ref 46), some (.int m4), none, none]) (S' := []) (w' := px_w K s197 t198) (q := []) 1 hM rfl trivial (fun hc202 => ?_) (fun hc202 => ?_)
                                  · rw [if_pos hc202] at h
                                    refine px_blk (i' := 31) (L' := [some (.ref 0), some (.ref 1), some (.ref 28), some (.ref 46), some (.int (m4 + (5 : Int32))), none, none]) (S' := []) (w' := px_w K s197 t198) (q := []) 2 hM rfl trivial ?_
                                    exact ih (m4 + (5 : Int32)) s197 t198 z h o w2 ha
                                  · rw [if_neg hc202] at h
                                    cases h
                                    exact px_E_le (px_leC_L _ _ (by simp [px_leC, px_le1, Value.category])) ha
                                · cases h
                              · cases h
                            · rw [if_neg hs191] at h
                              by_cases hs203 : ((K.2.1 m4.toNatClampNeg) &&& (31 : Int32)).toInt = 12
                              · rw [if_pos hs203] at h
                                refine px_E_step hM rfl rfl (px_tb_at hs203 rfl) trivial ?_
                                obtain ⟨⟨hq204, hq205⟩, h⟩ := px_gd_some h
                                refine px_blk (i' := 395) (L' := [some (.ref 0), some (.ref 1), some (.ref 28), some (.ref 46), some (.int m4), none, none]) (S' := [.long (K.2.1 (m4 + (2 : Int32)).toNatClampNeg).toInt64, .int (K.2.1 (m4 + (1 : Int32)).toNatClampNeg), .ref 1]) (w' := px_w K s t) (q := [vp_in (m4 + (1 : Int32)) K.1, vp_in (m4 + (2 : Int32)) K.1]) 12 hM rfl (show (vp_in (m4 + (1 : Int32)) K.1) ∧ (vp_in (m4 + (2 : Int32)) K.1) from ⟨hq204, hq205⟩) ?_
                                obtain ⟨hq206, h⟩ := px_gd_some h
                                refine px_blk (i' := 406) (L' := [some (.ref 0), some (.ref 1), some (.ref 28), some (.ref 46), some (.int m4), none, none]) (S' := [.long (((K.2.1 (m4 + (2 : Int32)).toNatClampNeg).toInt64 <<< ((32 : Int32).toInt64 &&& 63)) ||| ((K.2.1 (m4 + (3 : Int32)).toNatClampNeg).toInt64 &&& (4294967295 : Int64))), .int (K.2.1 (m4 + (1 : Int32)).toNatClampNeg), .ref 1]) (w' := px_w K s t) (q := [vp_in (m4 + (3 : Int32)) K.1]) 11 hM rfl (show vp_in (m4 + (3 : Int32)) K.1 from hq206) ?_
                                rcases px_bi_some h with ⟨v210, s207, t208, hk209, h⟩ | ⟨x211, s207, t208, hk209, h⟩
                                · refine px_E_call hM rfl rfl rfl rfl (px_E_mono (by decide) (e_E_limit_1 K N (K.2.1 (m4 + (1 : Int32)).toNatClampNeg) (((K.2.1 (m4 + (2 : Int32)).toNatClampNeg).toInt64 <<< ((32 : Int32).toInt64 &&& 63)) ||| ((K.2.1 (m4 + (3 : Int32)).toNatClampNeg).toInt64 &&& (4294967295 : Int64))) s t _ hk209)) ?_
                                  obtain ⟨⟨hq212, hq213⟩, h⟩ := px_gd_some h
                                  refine px_blk (i' := 419) (L' := [some (.ref 0), some (.ref 1), some (.ref 28), some (.ref 46), some (.int m4), none, none]) (S' := [.long (K.2.1 (m4 + (2 : Int32)).toNatClampNeg).toInt64, .int (K.2.1 (m4 + (1 : Int32)).toNatClampNeg), .ref 28, .int v210]) (w' := px_w K s207 t208) (q := [vp_in (m4 + (1 : Int32)) K.1, vp_in (m4 + (2 : Int32)) K.1]) 12 hM rfl (show (vp_in (m4 + (1 : Int32)) K.1) ∧ (vp_in (m4 + (2 : Int32)) K.1) from ⟨hq212, hq213⟩) ?_
                                  obtain ⟨hq214, h⟩ := px_gd_some h
                                  refine px_blk (i' := 430) (L' := [some (.ref 0), some (.ref 1), some (.ref 28), some (.ref 46), some (.int m4), none, none]) (S' := [.long (((K.2.1 (m4 + (2 : Int32)).toNatClampNeg).toInt64 <<< ((32 : Int32).toInt64 &&& 63)) ||| ((K.2.1 (m4 + (3 : Int32)).toNatClampNeg).toInt64 &&& (4294967295 : Int64))), .int (K.2.1 (m4 + (1 : Int32)).toNatClampNeg), .ref 28, .int v210]) (w' := px_w K s207 t208) (q := [vp_in (m4 + (3 : Int32)) K.1]) 11 hM rfl (show vp_in (m4 + (3 : Int32)) K.1 from hq214) ?_
                                  rcases px_bi_some h with ⟨v218, s215, t216, hk217, h⟩ | ⟨x219, s215, t216, hk217, h⟩
                                  · refine px_E_call hM rfl rfl rfl rfl (px_E_mono (by decide) (e_M_limit_28 K N (K.2.1 (m4 + (1 : Int32)).toNatClampNeg) (((K.2.1 (m4 + (2 : Int32)).toNatClampNeg).toInt64 <<< ((32 : Int32).toInt64 &&& 63)) ||| ((K.2.1 (m4 + (3 : Int32)).toNatClampNeg).toInt64 &&& (4294967295 : Int64))) s207 t208 _ hk217)) ?_
                                    refine px_blkif (c := v210 = v218) (t := 691) (e := 432) (L' := [some (.ref 0), some (.ref 1), some (.ref 28), some (.ref 46), some (.int m4), none, none]) (S' := []) (w' := px_w K s215 t216) (q := []) 1 hM rfl trivial (fun hc220 => ?_) (fun hc220 => ?_)
                                    · rw [if_pos hc220] at h
                                      refine px_blk (i' := 31) (L' := [some (.ref 0), some (.ref 1), some (.ref 28), some (.ref 46), some (.int (m4 + (5 : Int32))), none, none]) (S' := []) (w' := px_w K s215 t216) (q := []) 2 hM rfl trivial ?_
                                      exact ih (m4 + (5 : Int32)) s215 t216 z h o w2 ha
                                    · rw [if_neg hc220] at h
                                      cases h
                                      exact px_E_le (px_leC_L _ _ (by simp [px_leC, px_le1, Value.category])) ha
                                  · cases h
                                · cases h
                              · rw [if_neg hs203] at h
                                by_cases hs221 : ((K.2.1 m4.toNatClampNeg) &&& (31 : Int32)).toInt = 13
                                · rw [if_pos hs221] at h
                                  refine px_E_step hM rfl rfl (px_tb_at hs221 rfl) trivial ?_
                                  obtain ⟨hq222, h⟩ := px_gd_some h
                                  refine px_blk (i' := 446) (L' := [some (.ref 0), some (.ref 1), some (.ref 28), some (.ref 46), some (.int m4), none, none]) (S' := [.int (2 : Int32), .int m4, .ref 0, .long ((K.2.1 (m4 + (1 : Int32)).toNatClampNeg).toInt64 <<< ((32 : Int32).toInt64 &&& 63)), .ref 1]) (w' := px_w K s t) (q := [vp_in (m4 + (1 : Int32)) K.1]) 12 hM rfl (show vp_in (m4 + (1 : Int32)) K.1 from hq222) ?_
                                  obtain ⟨hq223, h⟩ := px_gd_some h
                                  refine px_blk (i' := 452) (L' := [some (.ref 0), some (.ref 1), some (.ref 28), some (.ref 46), some (.int m4), none, none]) (S' := [.long (((K.2.1 (m4 + (1 : Int32)).toNatClampNeg).toInt64 <<< ((32 : Int32).toInt64 &&& 63)) ||| ((K.2.1 (m4 + (2 : Int32)).toNatClampNeg).toInt64 &&& (4294967295 : Int64))), .ref 1]) (w' := px_w K s t) (q := [vp_in (m4 + (2 : Int32)) K.1]) 6 hM rfl (show vp_in (m4 + (2 : Int32)) K.1 from hq223) ?_
                                  rcases px_bi_some h with ⟨v227, s224, t225, hk226, h⟩ | ⟨x228, s224, t225, hk226, h⟩
                                  · refine px_E_call hM rfl rfl rfl rfl (px_E_mono (by decide) (e_E_crash_1 K N (((K.2.1 (m4 + (1 : Int32)).toNatClampNeg).toInt64 <<< ((32 : Int32).toInt64 &&& 63)) ||| ((K.2.1 (m4 + (2 : Int32)).toNatClampNeg).toInt64 &&& (4294967295 : Int64))) s t _ hk226)) ?_
                                    obtain ⟨hq229, h⟩ := px_gd_some h
                                    refine px_blk (i' := 465) (L' := [some (.ref 0), some (.ref 1), some (.ref 28), some (.ref 46), some (.int m4), none, none]) (S' := [.int (2 : Int32), .int m4, .ref 0, .long ((K.2.1 (m4 + (1 : Int32)).toNatClampNeg).toInt64 <<< ((32 : Int32).toInt64 &&& 63)), .ref 28, .int v227]) (w' := px_w K s224 t225) (q := [vp_in (m4 + (1 : Int32)) K.1]) 12 hM rfl (show vp_in (m4 + (1 : Int32)) K.1 from hq229) ?_
                                    obtain ⟨hq230, h⟩ := px_gd_some h
                                    refine px_blk (i' := 471) (L' := [some (.ref 0), some (.ref 1), some (.ref 28), some (.ref 46), some (.int m4), none, none]) (S' := [.long (((K.2.1 (m4 + (1 : Int32)).toNatClampNeg).toInt64 <<< ((32 : Int32).toInt64 &&& 63)) ||| ((K.2.1 (m4 + (2 : Int32)).toNatClampNeg).toInt64 &&& (4294967295 : Int64))), .ref 28, .int v227]) (w' := px_w K s224 t225) (q := [vp_in (m4 + (2 : Int32)) K.1]) 6 hM rfl (show vp_in (m4 + (2 : Int32)) K.1 from hq230) ?_
                                    rcases px_bi_some h with ⟨v234, s231, t232, hk233, h⟩ | ⟨x235, s231, t232, hk233, h⟩
                                    · refine px_E_call hM rfl rfl rfl rfl (px_E_mono (by decide) (e_M_crash_28 K N (((K.2.1 (m4 + (1 : Int32)).toNatClampNeg).toInt64 <<< ((32 : Int32).toInt64 &&& 63)) ||| ((K.2.1 (m4 + (2 : Int32)).toNatClampNeg).toInt64 &&& (4294967295 : Int64))) s224 t225 _ hk233)) ?_
                                      refine px_blkif (c := v227 = v234) (t := 691) (e := 473) (L' := [some (.ref 0), some (.ref 1), some (.ref 28), some (.ref 46), some (.int m4), none, none]) (S' := []) (w' := px_w K s231 t232) (q := []) 1 hM rfl trivial (fun hc236 => ?_) (fun hc236 => ?_)
                                      · rw [if_pos hc236] at h
                                        refine px_blk (i' := 31) (L' := [some (.ref 0), some (.ref 1), some (.ref 28), some (.ref 46), some (.int (m4 + (5 : Int32))), none, none]) (S' := []) (w' := px_w K s231 t232) (q := []) 2 hM rfl trivial ?_
                                        exact ih (m4 + (5 : Int32)) s231 t232 z h o w2 ha
                                      · rw [if_neg hc236] at h
                                        cases h
                                        exact px_E_le (px_leC_L _ _ (by simp [px_leC, px_le1, Value.category])) ha
                                    · cases h
                                  · cases h
                                · rw [if_neg hs221] at h
                                  by_cases hs237 : ((K.2.1 m4.toNatClampNeg) &&& (31 : Int32)).toInt = 14
                                  · rw [if_pos hs237] at h
                                    refine px_E_step hM rfl rfl (px_tb_at hs237 rfl) trivial ?_
                                    obtain ⟨hq238, h⟩ := px_gd_some h
                                    refine px_blk (i' := 487) (L' := [some (.ref 0), some (.ref 1), some (.ref 28), some (.ref 46), some (.int m4), none, none]) (S' := [.int (2 : Int32), .int m4, .ref 0, .long ((K.2.1 (m4 + (1 : Int32)).toNatClampNeg).toInt64 <<< ((32 : Int32).toInt64 &&& 63)), .ref 1]) (w' := px_w K s t) (q := [vp_in (m4 + (1 : Int32)) K.1]) 12 hM rfl (show vp_in (m4 + (1 : Int32)) K.1 from hq238) ?_
                                    obtain ⟨hq239, h⟩ := px_gd_some h
                                    refine px_blk (i' := 493) (L' := [some (.ref 0), some (.ref 1), some (.ref 28), some (.ref 46), some (.int m4), none, none]) (S' := [.long (((K.2.1 (m4 + (1 : Int32)).toNatClampNeg).toInt64 <<< ((32 : Int32).toInt64 &&& 63)) ||| ((K.2.1 (m4 + (2 : Int32)).toNatClampNeg).toInt64 &&& (4294967295 : Int64))), .ref 1]) (w' := px_w K s t) (q := [vp_in (m4 + (2 : Int32)) K.1]) 6 hM rfl (show vp_in (m4 + (2 : Int32)) K.1 from hq239) ?_
                                    rcases px_bi_some h with ⟨v243, s240, t241, hk242, h⟩ | ⟨x244, s240, t241, hk242, h⟩
                                    · refine px_E_call hM rfl rfl rfl rfl (px_E_mono (by decide) (e_E_lose_1 K N (((K.2.1 (m4 + (1 : Int32)).toNatClampNeg).toInt64 <<< ((32 : Int32).toInt64 &&& 63)) ||| ((K.2.1 (m4 + (2 : Int32)).toNatClampNeg).toInt64 &&& (4294967295 : Int64))) s t _ hk242)) ?_
                                      obtain ⟨hq245, h⟩ := px_gd_some h
                                      refine px_blk (i' := 506) (L' := [some (.ref 0), some (.ref 1), some (.ref 28), some (.ref 46), some (.int m4), none, none]) (S' := [.int (2 : Int32), .int m4, .ref 0, .long ((K.2.1 (m4 + (1 : Int32)).toNatClampNeg).toInt64 <<< ((32 : Int32).toInt64 &&& 63)), .ref 28, .int v243]) (w' := px_w K s240 t241) (q := [vp_in (m4 + (1 : Int32)) K.1]) 12 hM rfl (show vp_in (m4 + (1 : Int32)) K.1 from hq245) ?_
                                      obtain ⟨hq246, h⟩ := px_gd_some h
                                      refine px_blk (i' := 512) (L' := [some (.ref 0), some (.ref 1), some (.ref 28), some (.ref 46), some (.int m4), none, none]) (S' := [.long (((K.2.1 (m4 + (1 : Int32)).toNatClampNeg).toInt64 <<< ((32 : Int32).toInt64 &&& 63)) ||| ((K.2.1 (m4 + (2 : Int32)).toNatClampNeg).toInt64 &&& (4294967295 : Int64))), .ref 28, .int v243]) (w' := px_w K s240 t241) (q := [vp_in (m4 + (2 : Int32)) K.1]) 6 hM rfl (show vp_in (m4 + (2 : Int32)) K.1 from hq246) ?_
                                      rcases px_bi_some h with ⟨v250, s247, t248, hk249, h⟩ | ⟨x251, s247, t248, hk249, h⟩
                                      · refine px_E_call hM rfl rfl rfl rfl (px_E_mono (by decide) (e_M_lose_28 K N (((K.2.1 (m4 + (1 : Int32)).toNatClampNeg).toInt64 <<< ((32 : Int32).toInt64 &&& 63)) ||| ((K.2.1 (m4 + (2 : Int32)).toNatClampNeg).toInt64 &&& (4294967295 : Int64))) s240 t241 _ hk249)) ?_
                                        refine px_blkif (c := v243 = v250) (t := 691) (e := 514) (L' := [some (.ref 0), some (.ref 1), some (.ref 28), some (.ref 46), some (.int m4), none, none]) (S' := []) (w' := px_w K s247 t248) (q := []) 1 hM rfl trivial (fun hc252 => ?_) (fun hc252 => ?_)
                                        · rw [if_pos hc252] at h
                                          refine px_blk (i' := 31) (L' := [some (.ref 0), some (.ref 1), some (.ref 28), some (.ref 46), some (.int (m4 + (5 : Int32))), none, none]) (S' := []) (w' := px_w K s247 t248) (q := []) 2 hM rfl trivial ?_
                                          exact ih (m4 + (5 : Int32)) s247 t248 z h o w2 ha
                                        · rw [if_neg hc252] at h
                                          cases h
                                          exact px_E_le (px_leC_L _ _ (by simp [px_leC, px_le1, Value.category])) ha
                                      · cases h
                                    · cases h
                                  · rw [if_neg hs237] at h
                                    by_cases hs253 : ((K.2.1 m4.toNatClampNeg) &&& (31 : Int32)).toInt = 15
                                    · rw [if_pos hs253] at h
                                      refine px_E_step hM rfl rfl (px_tb_at hs253 rfl) trivial ?_
                                      obtain ⟨hq254, h⟩ := px_gd_some h
                                      refine px_blk (i' := 522) (L' := [some (.ref 0), some (.ref 1), some (.ref 28), some (.ref 46), some (.int m4), none, none]) (S' := [.int (K.2.1 (m4 + (1 : Int32)).toNatClampNeg), .ref 1]) (w' := px_w K s t) (q := [vp_in (m4 + (1 : Int32)) K.1]) 6 hM rfl (show vp_in (m4 + (1 : Int32)) K.1 from hq254) ?_
                                      have hK : px_E px_ET px_P 38 207 526 [some (.ref 0), some (.ref 1), some (.ref 28), some (.ref 46), some (.int m4), none, none] [.int (if (K.2.1 (m4 + (1 : Int32)).toNatClampNeg) = 0 then (0 : Int32) else (1 : Int32)), .ref 1] (px_w K s t) o w2 := by
                                        obtain ⟨⟨hq255, hq256⟩, h⟩ := px_gd_some h
                                        refine px_blk (i' := 538) (L' := [some (.ref 0), some (.ref 1), some (.ref 28), some (.ref 46), some (.int m4), none, none]) (S' := [.int (32 : Int32), .long (K.2.1 (m4 + (3 : Int32)).toNatClampNeg).toInt64, .int (K.2.1 (m4 + (2 : Int32)).toNatClampNeg), .int (if (K.2.1 (m4 + (1 : Int32)).toNatClampNeg) = 0 then (0 : Int32) else (1 : Int32)), .ref 1]) (w' := px_w K s t) (q := [vp_in (m4 + (2 : Int32)) K.1, vp_in (m4 + (3 : Int32)) K.1]) 12 hM rfl (show (vp_in (m4 + (2 : Int32)) K.1) ∧ (vp_in (m4 + (3 : Int32)) K.1) from ⟨hq255, hq256⟩) ?_
                                        obtain ⟨hq257, h⟩ := px_gd_some h
                                        refine px_blk (i' := 548) (L' := [some (.ref 0), some (.ref 1), some (.ref 28), some (.ref 46), some (.int m4), none, none]) (S' := [.long (((K.2.1 (m4 + (3 : Int32)).toNatClampNeg).toInt64 <<< ((32 : Int32).toInt64 &&& 63)) ||| ((K.2.1 (m4 + (4 : Int32)).toNatClampNeg).toInt64 &&& (4294967295 : Int64))), .int (K.2.1 (m4 + (2 : Int32)).toNatClampNeg), .int (if (K.2.1 (m4 + (1 : Int32)).toNatClampNeg) = 0 then (0 : Int32) else (1 : Int32)), .ref 1]) (w' := px_w K s t) (q := [vp_in (m4 + (4 : Int32)) K.1]) 10 hM rfl (show vp_in (m4 + (4 : Int32)) K.1 from hq257) ?_
                                        rcases px_bi_some h with ⟨v261, s258, t259, hk260, h⟩ | ⟨x262, s258, t259, hk260, h⟩
                                        · refine px_E_call hM rfl rfl rfl rfl (px_E_mono (by decide) (e_E_mount_1 K N (if (K.2.1 (m4 + (1 : Int32)).toNatClampNeg) = 0 then (0 : Int32) else (1 : Int32)) (K.2.1 (m4 + (2 : Int32)).toNatClampNeg) (((K.2.1 (m4 + (3 : Int32)).toNatClampNeg).toInt64 <<< ((32 : Int32).toInt64 &&& 63)) ||| ((K.2.1 (m4 + (4 : Int32)).toNatClampNeg).toInt64 &&& (4294967295 : Int64))) s t _ hk260)) ?_
                                          obtain ⟨hq263, h⟩ := px_gd_some h
                                          refine px_blk (i' := 555) (L' := [some (.ref 0), some (.ref 1), some (.ref 28), some (.ref 46), some (.int m4), none, none]) (S' := [.int (K.2.1 (m4 + (1 : Int32)).toNatClampNeg), .ref 28, .int v261]) (w' := px_w K s258 t259) (q := [vp_in (m4 + (1 : Int32)) K.1]) 6 hM rfl (show vp_in (m4 + (1 : Int32)) K.1 from hq263) ?_
                                          have hK : px_E px_ET px_P 38 207 559 [some (.ref 0), some (.ref 1), some (.ref 28), some (.ref 46), some (.int m4), none, none] [.int (if (K.2.1 (m4 + (1 : Int32)).toNatClampNeg) = 0 then (0 : Int32) else (1 : Int32)), .ref 28, .int v261] (px_w K s258 t259) o w2 := by
                                            obtain ⟨⟨hq264, hq265⟩, h⟩ := px_gd_some h
                                            refine px_blk (i' := 571) (L' := [some (.ref 0), some (.ref 1), some (.ref 28), some (.ref 46), some (.int m4), none, none]) (S' := [.int (32 : Int32), .long (K.2.1 (m4 + (3 : Int32)).toNatClampNeg).toInt64, .int (K.2.1 (m4 + (2 : Int32)).toNatClampNeg), .int (if (K.2.1 (m4 + (1 : Int32)).toNatClampNeg) = 0 then (0 : Int32) else (1 : Int32)), .ref 28, .int v261]) (w' := px_w K s258 t259) (q := [vp_in (m4 + (2 : Int32)) K.1, vp_in (m4 + (3 : Int32)) K.1]) 12 hM rfl (show (vp_in (m4 + (2 : Int32)) K.1) ∧ (vp_in (m4 + (3 : Int32)) K.1) from ⟨hq264, hq265⟩) ?_
                                            obtain ⟨hq266, h⟩ := px_gd_some h
                                            refine px_blk (i' := 581) (L' := [some (.ref 0), some (.ref 1), some (.ref 28), some (.ref 46), some (.int m4), none, none]) (S' := [.long (((K.2.1 (m4 + (3 : Int32)).toNatClampNeg).toInt64 <<< ((32 : Int32).toInt64 &&& 63)) ||| ((K.2.1 (m4 + (4 : Int32)).toNatClampNeg).toInt64 &&& (4294967295 : Int64))), .int (K.2.1 (m4 + (2 : Int32)).toNatClampNeg), .int (if (K.2.1 (m4 + (1 : Int32)).toNatClampNeg) = 0 then (0 : Int32) else (1 : Int32)), .ref 28, .int v261]) (w' := px_w K s258 t259) (q := [vp_in (m4 + (4 : Int32)) K.1]) 10 hM rfl (show vp_in (m4 + (4 : Int32)) K.1 from hq266) ?_
                                            rcases px_bi_some h with ⟨v270, s267, t268, hk269, h⟩ | ⟨x271, s267, t268, hk269, h⟩
                                            · refine px_E_call hM rfl rfl rfl rfl (px_E_mono (by decide) (e_M_mount_28 K N (if (K.2.1 (m4 + (1 : Int32)).toNatClampNeg) = 0 then (0 : Int32) else (1 : Int32)) (K.2.1 (m4 + (2 : Int32)).toNatClampNeg) (((K.2.1 (m4 + (3 : Int32)).toNatClampNeg).toInt64 <<< ((32 : Int32).toInt64 &&& 63)) ||| ((K.2.1 (m4 + (4 : Int32)).toNatClampNeg).toInt64 &&& (4294967295 : Int64))) s258 t259 _ hk269)) ?_
                                              refine px_blkif (c := v261 = v270) (t := 691) (e := 583) (L' := [some (.ref 0), some (.ref 1), some (.ref 28), some (.ref 46), some (.int m4), none, none]) (S' := []) (w' := px_w K s267 t268) (q := []) 1 hM rfl trivial (fun hc272 => ?_) (fun hc272 => ?_)
                                              · rw [if_pos hc272] at h
                                                refine px_blk (i' := 31) (L' := [some (.ref 0), some (.ref 1), some (.ref 28), some (.ref 46), some (.int (m4 + (5 : Int32))), none, none]) (S' := []) (w' := px_w K s267 t268) (q := []) 2 hM rfl trivial ?_
                                                exact ih (m4 + (5 : Int32)) s267 t268 z h o w2 ha
                                              · rw [if_neg hc272] at h
                                                cases h
                                                exact px_E_le (px_leC_L _ _ (by simp [px_leC, px_le1, Value.category])) ha
                                            · cases h
                                          clear h
                                          refine px_blkif (c := (K.2.1 (m4 + (1 : Int32)).toNatClampNeg) = 0) (t := 558) (e := 556) (L' := [some (.ref 0), some (.ref 1), some (.ref 28), some (.ref 46), some (.int m4), none, none]) (S' := [.ref 28, .int v261]) (w' := px_w K s258 t259) (q := []) 1 hM rfl trivial (fun hc273 => ?_) (fun hc273 => ?_)
                                          · rw [if_pos hc273] at hK
                                            exact px_blk (i' := 559) (L' := [some (.ref 0), some (.ref 1), some (.ref 28), some (.ref 46), some (.int m4), none, none]) (S' := [.int (0 : Int32), .ref 28, .int v261]) (w' := px_w K s258 t259) (q := []) 1 hM rfl trivial hK
                                          · rw [if_neg hc273] at hK
                                            exact px_blk (i' := 559) (L' := [some (.ref 0), some (.ref 1), some (.ref 28), some (.ref 46), some (.int m4), none, none]) (S' := [.int (1 : Int32), .ref 28, .int v261]) (w' := px_w K s258 t259) (q := []) 2 hM rfl trivial hK
                                        · cases h
                                      clear h
                                      refine px_blkif (c := (K.2.1 (m4 + (1 : Int32)).toNatClampNeg) = 0) (t := 525) (e := 523) (L' := [some (.ref 0), some (.ref 1), some (.ref 28), some (.ref 46), some (.int m4), none, none]) (S' := [.ref 1]) (w' := px_w K s t) (q := []) 1 hM rfl trivial (fun hc274 => ?_) (fun hc274 => ?_)
                                      · rw [if_pos hc274] at hK
                                        exact px_blk (i' := 526) (L' := [some (.ref 0), some (.ref 1), some (.ref 28), some (.ref 46), some (.int m4), none, none]) (S' := [.int (0 : Int32), .ref 1]) (w' := px_w K s t) (q := []) 1 hM rfl trivial hK
                                      · rw [if_neg hc274] at hK
                                        exact px_blk (i' := 526) (L' := [some (.ref 0), some (.ref 1), some (.ref 28), some (.ref 46), some (.int m4), none, none]) (S' := [.int (1 : Int32), .ref 1]) (w' := px_w K s t) (q := []) 2 hM rfl trivial hK
                                    · rw [if_neg hs253] at h
                                      by_cases hs275 : ((K.2.1 m4.toNatClampNeg) &&& (31 : Int32)).toInt = 16
                                      · rw [if_pos hs275] at h
                                        refine px_E_step hM rfl rfl (px_tb_at hs275 rfl) trivial ?_
                                        refine px_blk (i' := 586) (L' := [some (.ref 0), some (.ref 1), some (.ref 28), some (.ref 46), some (.int m4), none, none]) (S' := [.ref 1]) (w' := px_w K s t) (q := []) 1 hM rfl trivial ?_
                                        rcases px_bi_some h with ⟨v279, s276, t277, hk278, h⟩ | ⟨x280, s276, t277, hk278, h⟩
                                        · refine px_E_call hM rfl rfl rfl rfl (px_E_mono (by decide) (e_E_attach_1 K N s t _ hk278)) ?_
                                          refine px_blk (i' := 588) (L' := [some (.ref 0), some (.ref 1), some (.ref 28), some (.ref 46), some (.int m4), none, none]) (S' := [.ref 28, .int v279]) (w' := px_w K s276 t277) (q := []) 1 hM rfl trivial ?_
                                          rcases px_bi_some h with ⟨v284, s281, t282, hk283, h⟩ | ⟨x285, s281, t282, hk283, h⟩
                                          · refine px_E_call hM rfl rfl rfl rfl (px_E_mono (by decide) (e_M_attach_28 K N s276 t277 _ hk283)) ?_
                                            refine px_blkif (c := v279 = v284) (t := 691) (e := 590) (L' := [some (.ref 0), some (.ref 1), some (.ref 28), some (.ref 46), some (.int m4), none, none]) (S' := []) (w' := px_w K s281 t282) (q := []) 1 hM rfl trivial (fun hc286 => ?_) (fun hc286 => ?_)
                                            · rw [if_pos hc286] at h
                                              refine px_blk (i' := 31) (L' := [some (.ref 0), some (.ref 1), some (.ref 28), some (.ref 46), some (.int (m4 + (5 : Int32))), none, none]) (S' := []) (w' := px_w K s281 t282) (q := []) 2 hM rfl trivial ?_
                                              exact ih (m4 + (5 : Int32)) s281 t282 z h o w2 ha
                                            · rw [if_neg hc286] at h
                                              cases h
                                              exact px_E_le (px_leC_L _ _ (by simp [px_leC, px_le1, Value.category])) ha
                                          · cases h
                                        · cases h
                                      · rw [if_neg hs275] at h
                                        by_cases hs287 : ((K.2.1 m4.toNatClampNeg) &&& (31 : Int32)).toInt = 17
                                        · rw [if_pos hs287] at h
                                          refine px_E_step hM rfl rfl (px_tb_at hs287 rfl) trivial ?_
                                          obtain ⟨⟨hq288, hq289⟩, h⟩ := px_gd_some h
                                          refine px_blk (i' := 603) (L' := [some (.ref 0), some (.ref 1), some (.ref 28), some (.ref 46), some (.int m4), none, none]) (S' := [.int (K.2.1 (m4 + (2 : Int32)).toNatClampNeg), .int (K.2.1 (m4 + (1 : Int32)).toNatClampNeg), .ref 1]) (w' := px_w K s t) (q := [vp_in (m4 + (1 : Int32)) K.1, vp_in (m4 + (2 : Int32)) K.1]) 11 hM rfl (show (vp_in (m4 + (1 : Int32)) K.1) ∧ (vp_in (m4 + (2 : Int32)) K.1) from ⟨hq288, hq289⟩) ?_
                                          rcases px_bi_some h with ⟨v293, s290, t291, hk292, h⟩ | ⟨x294, s290, t291, hk292, h⟩
                                          · refine px_E_call hM rfl rfl rfl rfl (px_E_mono (by decide) (e_E_slot_1 K N (K.2.1 (m4 + (1 : Int32)).toNatClampNeg) (K.2.1 (m4 + (2 : Int32)).toNatClampNeg) s t _ hk292)) ?_
                                            obtain ⟨⟨hq295, hq296⟩, h⟩ := px_gd_some h
                                            refine px_blk (i' := 615) (L' := [some (.ref 0), some (.ref 1), some (.ref 28), some (.ref 46), some (.int m4), none, none]) (S' := [.int (K.2.1 (m4 + (2 : Int32)).toNatClampNeg), .int (K.2.1 (m4 + (1 : Int32)).toNatClampNeg), .ref 28, .int v293]) (w' := px_w K s290 t291) (q := [vp_in (m4 + (1 : Int32)) K.1, vp_in (m4 + (2 : Int32)) K.1]) 11 hM rfl (show (vp_in (m4 + (1 : Int32)) K.1) ∧ (vp_in (m4 + (2 : Int32)) K.1) from ⟨hq295, hq296⟩) ?_
                                            rcases px_bi_some h with ⟨v300, s297, t298, hk299, h⟩ | ⟨x301, s297, t298, hk299, h⟩
                                            · refine px_E_call hM rfl rfl rfl rfl (px_E_mono (by decide) (e_M_slot_28 K N (K.2.1 (m4 + (1 : Int32)).toNatClampNeg) (K.2.1 (m4 + (2 : Int32)).toNatClampNeg) s290 t291 _ hk299)) ?_
                                              refine px_blkif (c := v293 = v300) (t := 691) (e := 617) (L' := [some (.ref 0), some (.ref 1), some (.ref 28), some (.ref 46), some (.int m4), none, none]) (S' := []) (w' := px_w K s297 t298) (q := []) 1 hM rfl trivial (fun hc302 => ?_) (fun hc302 => ?_)
                                              · rw [if_pos hc302] at h
                                                refine px_blk (i' := 31) (L' := [some (.ref 0), some (.ref 1), some (.ref 28), some (.ref 46), some (.int (m4 + (5 : Int32))), none, none]) (S' := []) (w' := px_w K s297 t298) (q := []) 2 hM rfl trivial ?_
                                                exact ih (m4 + (5 : Int32)) s297 t298 z h o w2 ha
                                              · rw [if_neg hc302] at h
                                                cases h
                                                exact px_E_le (px_leC_L _ _ (by simp [px_leC, px_le1, Value.category])) ha
                                            · cases h
                                          · cases h
                                        · rw [if_neg hs287] at h
                                          by_cases hs303 : ((K.2.1 m4.toNatClampNeg) &&& (31 : Int32)).toInt = 18
                                          · rw [if_pos hs303] at h
                                            refine px_E_step hM rfl rfl (px_tb_at hs303 rfl) trivial ?_
                                            obtain ⟨⟨hq304, hq305⟩, h⟩ := px_gd_some h
                                            refine px_blk (i' := 631) (L' := [some (.ref 0), some (.ref 1), some (.ref 28), some (.ref 46), some (.int m4), none, none]) (S' := [.ref 0, .int (K.2.1 (m4 + (2 : Int32)).toNatClampNeg), .int (K.2.1 (m4 + (1 : Int32)).toNatClampNeg), .ref 1]) (w' := px_w K s t) (q := [vp_in (m4 + (1 : Int32)) K.1, vp_in (m4 + (2 : Int32)) K.1]) 12 hM rfl (show (vp_in (m4 + (1 : Int32)) K.1) ∧ (vp_in (m4 + (2 : Int32)) K.1) from ⟨hq304, hq305⟩) ?_
                                            obtain ⟨⟨hq306, hq307⟩, h⟩ := px_gd_some h
                                            refine px_blk (i' := 640) (L' := [some (.ref 0), some (.ref 1), some (.ref 28), some (.ref 46), some (.int m4), none, none]) (S' := [.int (K.2.1 (m4 + (4 : Int32)).toNatClampNeg), .int (K.2.1 (m4 + (3 : Int32)).toNatClampNeg), .int (K.2.1 (m4 + (2 : Int32)).toNatClampNeg), .int (K.2.1 (m4 + (1 : Int32)).toNatClampNeg), .ref 1]) (w' := px_w K s t) (q := [vp_in (m4 + (3 : Int32)) K.1, vp_in (m4 + (4 : Int32)) K.1]) 9 hM rfl (show (vp_in (m4 + (3 : Int32)) K.1) ∧ (vp_in (m4 + (4 : Int32)) K.1) from ⟨hq306, hq307⟩) ?_
                                            have hK : px_E px_ET px_P 38 207 644 [some (.ref 0), some (.ref 1), some (.ref 28), some (.ref 46), some (.int m4), none, none] [.int (if (K.2.1 (m4 + (4 : Int32)).toNatClampNeg) = 0 then (0 : Int32) else (1 : Int32)), .int (K.2.1 (m4 + (3 : Int32)).toNatClampNeg), .int (K.2.1 (m4 + (2 : Int32)).toNatClampNeg), .int (K.2.1 (m4 + (1 : Int32)).toNatClampNeg), .ref 1] (px_w K s t) o w2 := by
                                              rcases px_bi_some h with ⟨v311, s308, t309, hk310, h⟩ | ⟨x312, s308, t309, hk310, h⟩
                                              · refine px_E_call hM rfl rfl rfl rfl (px_E_mono (by decide) (e_E_word_1 K N (K.2.1 (m4 + (1 : Int32)).toNatClampNeg) (K.2.1 (m4 + (2 : Int32)).toNatClampNeg) (K.2.1 (m4 + (3 : Int32)).toNatClampNeg) (if (K.2.1 (m4 + (4 : Int32)).toNatClampNeg) = 0 then (0 : Int32) else (1 : Int32)) s t _ hk310)) ?_
                                                obtain ⟨⟨hq313, hq314⟩, h⟩ := px_gd_some h
                                                refine px_blk (i' := 657) (L' := [some (.ref 0), some (.ref 1), some (.ref 28), some (.ref 46), some (.int m4), none, none]) (S' := [.ref 0, .int (K.2.1 (m4 + (2 : Int32)).toNatClampNeg), .int (K.2.1 (m4 + (1 : Int32)).toNatClampNeg), .ref 28, .int v311]) (w' := px_w K s308 t309) (q := [vp_in (m4 + (1 : Int32)) K.1, vp_in (m4 + (2 : Int32)) K.1]) 12 hM rfl (show (vp_in (m4 + (1 : Int32)) K.1) ∧ (vp_in (m4 + (2 : Int32)) K.1) from ⟨hq313, hq314⟩) ?_
                                                obtain ⟨⟨hq315, hq316⟩, h⟩ := px_gd_some h
                                                refine px_blk (i' := 666) (L' := [some (.ref 0), some (.ref 1), some (.ref 28), some (.ref 46), some (.int m4), none, none]) (S' := [.int (K.2.1 (m4 + (4 : Int32)).toNatClampNeg), .int (K.2.1 (m4 + (3 : Int32)).toNatClampNeg), .int (K.2.1 (m4 + (2 : Int32)).toNatClampNeg), .int (K.2.1 (m4 + (1 : Int32)).toNatClampNeg), .ref 28, .int v311]) (w' := px_w K s308 t309) (q := [vp_in (m4 + (3 : Int32)) K.1, vp_in (m4 + (4 : Int32)) K.1]) 9 hM rfl (show (vp_in (m4 + (3 : Int32)) K.1) ∧ (vp_in (m4 + (4 : Int32)) K.1) from ⟨hq315, hq316⟩) ?_
                                                have hK : px_E px_ET px_P 38 207 670 [some (.ref 0), some (.ref 1), some (.ref 28), some (.ref 46), some (.int m4), none, none] [.int (if (K.2.1 (m4 + (4 : Int32)).toNatClampNeg) = 0 then (0 : Int32) else (1 : Int32)), .int (K.2.1 (m4 + (3 : Int32)).toNatClampNeg), .int (K.2.1 (m4 + (2 : Int32)).toNatClampNeg), .int (K.2.1 (m4 + (1 : Int32)).toNatClampNeg), .ref 28, .int v311] (px_w K s308 t309) o w2 := by
                                                  rcases px_bi_some h with ⟨v320, s317, t318, hk319, h⟩ | ⟨x321, s317, t318, hk319, h⟩
                                                  · refine px_E_call hM rfl rfl rfl rfl (px_E_mono (by decide) (e_M_word2_28 K N (K.2.1 (m4 + (1 : Int32)).toNatClampNeg) (K.2.1 (m4 + (2 : Int32)).toNatClampNeg) (K.2.1 (m4 + (3 : Int32)).toNatClampNeg) (if (K.2.1 (m4 + (4 : Int32)).toNatClampNeg) = 0 then (0 : Int32) else (1 : Int32)) s308 t309 _ hk319)) ?_
                                                    refine px_blkif (c := v311 = v320) (t := 691) (e := 672) (L' := [some (.ref 0), some (.ref 1), some (.ref 28), some (.ref 46), some (.int m4), none, none]) (S' := []) (w' := px_w K s317 t318) (q := []) 1 hM rfl trivial (fun hc322 => ?_) (fun hc322 => ?_)
                                                    · rw [if_pos hc322] at h
                                                      refine px_blk (i' := 31) (L' := [some (.ref 0), some (.ref 1), some (.ref 28), some (.ref 46), some (.int (m4 + (5 : Int32))), none, none]) (S' := []) (w' := px_w K s317 t318) (q := []) 2 hM rfl trivial ?_
                                                      exact ih (m4 + (5 : Int32)) s317 t318 z h o w2 ha
                                                    · rw [if_neg hc322] at h
                                                      cases h
                                                      exact px_E_le (px_leC_L _ _ (by simp [px_leC, px_le1, Value.category])) ha
                                                  · cases h
                                                clear h
                                                refine px_blkif (c := (K.2.1 (m4 + (4 : Int32)).toNatClampNeg) = 0) (t := 669) (e := 667) (L' := [some (.ref 0), some (.ref 1), some (.ref 28), some (.ref 46), some (.int m4), none, none]) (S' := [.int (K.2.1 (m4 + (3 : Int32)).toNatClampNeg), .int (K.2.1 (m4 + (2 : Int32)).toNatClampNeg), .int (K.2.1 (m4 + (1 : Int32)).toNatClampNeg), .ref 28, .int v311]) (w' := px_w K s308 t309) (q := []) 1 hM rfl trivial (fun hc323 => ?_) (fun hc323 => ?_)
                                                · rw [if_pos hc323] at hK
                                                  exact px_blk (i' := 670) (L' := [some (.ref 0), some (.ref 1), some (.ref 28), some (.ref 46), some (.int m4), none, none]) (S' := [.int (0 : Int32), .int (K.2.1 (m4 + (3 : Int32)).toNatClampNeg), .int (K.2.1 (m4 + (2 : Int32)).toNatClampNeg), .int (K.2.1 (m4 + (1 : Int32)).toNatClampNeg), .ref 28, .int v311]) (w' := px_w K s308 t309) (q := []) 1 hM rfl trivial hK
                                                · rw [if_neg hc323] at hK
                                                  exact px_blk (i' := 670) (L' := [some (.ref 0), some (.ref 1), some (.ref 28), some (.ref 46), some (.int m4), none, none]) (S' := [.int (1 : Int32), .int (K.2.1 (m4 + (3 : Int32)).toNatClampNeg), .int (K.2.1 (m4 + (2 : Int32)).toNatClampNeg), .int (K.2.1 (m4 + (1 : Int32)).toNatClampNeg), .ref 28, .int v311]) (w' := px_w K s308 t309) (q := []) 2 hM rfl trivial hK
                                              · cases h
                                            clear h
                                            refine px_blkif (c := (K.2.1 (m4 + (4 : Int32)).toNatClampNeg) = 0) (t := 643) (e := 641) (L' := [some (.ref 0), some (.ref 1), some (.ref 28), some (.ref 46), some (.int m4), none, none]) (S' := [.int (K.2.1 (m4 + (3 : Int32)).toNatClampNeg), .int (K.2.1 (m4 + (2 : Int32)).toNatClampNeg), .int (K.2.1 (m4 + (1 : Int32)).toNatClampNeg), .ref 1]) (w' := px_w K s t) (q := []) 1 hM rfl trivial (fun hc324 => ?_) (fun hc324 => ?_)
                                            · rw [if_pos hc324] at hK
                                              exact px_blk (i' := 644) (L' := [some (.ref 0), some (.ref 1), some (.ref 28), some (.ref 46), some (.int m4), none, none]) (S' := [.int (0 : Int32), .int (K.2.1 (m4 + (3 : Int32)).toNatClampNeg), .int (K.2.1 (m4 + (2 : Int32)).toNatClampNeg), .int (K.2.1 (m4 + (1 : Int32)).toNatClampNeg), .ref 1]) (w' := px_w K s t) (q := []) 1 hM rfl trivial hK
                                            · rw [if_neg hc324] at hK
                                              exact px_blk (i' := 644) (L' := [some (.ref 0), some (.ref 1), some (.ref 28), some (.ref 46), some (.int m4), none, none]) (S' := [.int (1 : Int32), .int (K.2.1 (m4 + (3 : Int32)).toNatClampNeg), .int (K.2.1 (m4 + (2 : Int32)).toNatClampNeg), .int (K.2.1 (m4 + (1 : Int32)).toNatClampNeg), .ref 1]) (w' := px_w K s t) (q := []) 2 hM rfl trivial hK
                                          · rw [if_neg hs303] at h
                                            by_cases hs325 : ((K.2.1 m4.toNatClampNeg) &&& (31 : Int32)).toInt = 19
                                            · rw [if_pos hs325] at h
                                              refine px_E_step hM rfl rfl (px_tb_at hs325 rfl) trivial ?_
                                              obtain ⟨hq326, h⟩ := px_gd_some h
                                              refine px_blk (i' := 680) (L' := [some (.ref 0), some (.ref 1), some (.ref 28), some (.ref 46), some (.int m4), none, none]) (S' := [.int (K.2.1 (m4 + (1 : Int32)).toNatClampNeg), .ref 1]) (w' := px_w K s t) (q := [vp_in (m4 + (1 : Int32)) K.1]) 6 hM rfl (show vp_in (m4 + (1 : Int32)) K.1 from hq326) ?_
                                              rcases px_bi_some h with ⟨v330, s327, t328, hk329, h⟩ | ⟨x331, s327, t328, hk329, h⟩
                                              · refine px_E_call hM rfl rfl rfl rfl (px_E_mono (by decide) (e_E_count_1 K N (K.2.1 (m4 + (1 : Int32)).toNatClampNeg) s t _ hk329)) ?_
                                                obtain ⟨hq332, h⟩ := px_gd_some h
                                                refine px_blk (i' := 687) (L' := [some (.ref 0), some (.ref 1), some (.ref 28), some (.ref 46), some (.int m4), none, none]) (S' := [.int (K.2.1 (m4 + (1 : Int32)).toNatClampNeg), .ref 28, .int v330]) (w' := px_w K s327 t328) (q := [vp_in (m4 + (1 : Int32)) K.1]) 6 hM rfl (show vp_in (m4 + (1 : Int32)) K.1 from hq332) ?_
                                                rcases px_bi_some h with ⟨v336, s333, t334, hk335, h⟩ | ⟨x337, s333, t334, hk335, h⟩
                                                · refine px_E_call hM rfl rfl rfl rfl (px_E_mono (by decide) (e_M_count_28 K N (K.2.1 (m4 + (1 : Int32)).toNatClampNeg) s327 t328 _ hk335)) ?_
                                                  refine px_blkif (c := v330 = v336) (t := 691) (e := 689) (L' := [some (.ref 0), some (.ref 1), some (.ref 28), some (.ref 46), some (.int m4), none, none]) (S' := []) (w' := px_w K s333 t334) (q := []) 1 hM rfl trivial (fun hc338 => ?_) (fun hc338 => ?_)
                                                  · rw [if_pos hc338] at h
                                                    refine px_blk (i' := 31) (L' := [some (.ref 0), some (.ref 1), some (.ref 28), some (.ref 46), some (.int (m4 + (5 : Int32))), none, none]) (S' := []) (w' := px_w K s333 t334) (q := []) 2 hM rfl trivial ?_
                                                    exact ih (m4 + (5 : Int32)) s333 t334 z h o w2 ha
                                                  · rw [if_neg hc338] at h
                                                    cases h
                                                    exact px_E_le (px_leC_L _ _ (by simp [px_leC, px_le1, Value.category])) ha
                                                · cases h
                                              · cases h
                                            · rw [if_neg hs325] at h
                                              refine px_E_step hM rfl rfl (px_tb_df (by omega) rfl) trivial ?_
                                              refine px_blk (i' := 31) (L' := [some (.ref 0), some (.ref 1), some (.ref 28), some (.ref 46), some (.int (m4 + (5 : Int32))), none, none]) (S' := []) (w' := px_w K s t) (q := []) 2 hM rfl trivial ?_
                                              exact ih (m4 + (5 : Int32)) s t z h o w2 ha
noncomputable def f_L_law (K : px_K) (N : Nat) (a0 : Int32) (s : px_S) (t : px_W) : Option px_Res :=
  (px_lp (l_L_law_31 K N N a0 s t) (fun i1 vs2 s3 t4 => (if i1 = 86 then (px_v0 vs2 (some (.inl (some (.int (0 : Int32))), s3, t4))) else (if i1 = 113 then (px_v0 vs2 (some (.inl (some (.int (0 : Int32))), s3, t4))) else (if i1 = 150 then (px_v0 vs2 (some (.inl (some (.int (0 : Int32))), s3, t4))) else (if i1 = 183 then (px_v0 vs2 (some (.inl (some (.int (0 : Int32))), s3, t4))) else (if i1 = 194 then (px_v0 vs2 (some (.inl (some (.int (0 : Int32))), s3, t4))) else (if i1 = 222 then (px_v0 vs2 (some (.inl (some (.int (0 : Int32))), s3, t4))) else (if i1 = 249 then (px_v0 vs2 (some (.inl (some (.int (0 : Int32))), s3, t4))) else (if i1 = 296 then (px_v0 vs2 (some (.inl (some (.int (0 : Int32))), s3, t4))) else (if i1 = 323 then (px_v0 vs2 (some (.inl (some (.int (0 : Int32))), s3, t4))) else (if i1 = 360 then (px_v0 vs2 (some (.inl (some (.int (0 : Int32))), s3, t4))) else (if i1 = 367 then (px_v0 vs2 (some (.inl (some (.int (0 : Int32))), s3, t4))) else (if i1 = 374 then (px_v0 vs2 (some (.inl (some (.int (0 : Int32))), s3, t4))) else (if i1 = 381 then (px_v0 vs2 (some (.inl (some (.int (0 : Int32))), s3, t4))) else (if i1 = 432 then (px_v0 vs2 (some (.inl (some (.int (0 : Int32))), s3, t4))) else (if i1 = 473 then (px_v0 vs2 (some (.inl (some (.int (0 : Int32))), s3, t4))) else (if i1 = 514 then (px_v0 vs2 (some (.inl (some (.int (0 : Int32))), s3, t4))) else (if i1 = 583 then (px_v0 vs2 (some (.inl (some (.int (0 : Int32))), s3, t4))) else (if i1 = 590 then (px_v0 vs2 (some (.inl (some (.int (0 : Int32))), s3, t4))) else (if i1 = 617 then (px_v0 vs2 (some (.inl (some (.int (0 : Int32))), s3, t4))) else (if i1 = 672 then (px_v0 vs2 (some (.inl (some (.int (0 : Int32))), s3, t4))) else (if i1 = 689 then (px_v0 vs2 (some (.inl (some (.int (0 : Int32))), s3, t4))) else (if i1 = 693 then (px_v0 vs2 (some (.inl (some (.int (1 : Int32))), s3, t4))) else none))))))))))))))))))))))) (fun z6 => some z6))
set_option maxRecDepth 100000 in
theorem e_L_law (K : px_K) (N : Nat) (a0 : Int32) (s : px_S) (t : px_W) (r : px_Res) (h : f_L_law K N a0 s t = some r) : px_E px_ET px_P 38 207 31 [some (.ref 0), some (.ref 1), some (.ref 28), some (.ref 46), some (.int a0), none, none] [] (px_w K s t) r.1 (px_w K r.2.1 r.2.2) := by
  have hM : px_P[207]? = some pm_L_law := rfl
  unfold f_L_law at h
  rcases px_lp_some h with ⟨i1, vs2, s3, t4, hl5, h⟩ | ⟨z6, hl5, h⟩
  · by_cases hi7 : i1 = 86
    · subst hi7
      rw [if_pos rfl] at h
      have h9 := px_v0_some h
      clear h
      obtain ⟨rfl, h⟩ := h9
      refine e_l_L_law_31 K N N a0 s t _ hl5 _ _ ?_
      show px_E px_ET px_P 38 207 86 [none, none, none, none, none, none, none] [] (px_w K s3 t4) _ _
      refine px_blk (i' := 87) (L' := [none, none, none, none, none, none, none]) (S' := [.int (0 : Int32)]) (w' := px_w K s3 t4) (q := []) 1 hM rfl trivial ?_
      cases h
      exact px_E_ret hM rfl rfl rfl (show (0 : Int32) = 0 ∨ (0 : Int32) = 1 from Or.inl rfl)
    · rw [if_neg hi7] at h
      by_cases hi8 : i1 = 113
      · subst hi8
        rw [if_pos rfl] at h
        have h9 := px_v0_some h
        clear h
        obtain ⟨rfl, h⟩ := h9
        refine e_l_L_law_31 K N N a0 s t _ hl5 _ _ ?_
        show px_E px_ET px_P 38 207 113 [none, none, none, none, none, none, none] [] (px_w K s3 t4) _ _
        refine px_blk (i' := 114) (L' := [none, none, none, none, none, none, none]) (S' := [.int (0 : Int32)]) (w' := px_w K s3 t4) (q := []) 1 hM rfl trivial ?_
        cases h
        exact px_E_ret hM rfl rfl rfl (show (0 : Int32) = 0 ∨ (0 : Int32) = 1 from Or.inl rfl)
      · rw [if_neg hi8] at h
        by_cases hi9 : i1 = 150
        · subst hi9
          rw [if_pos rfl] at h
          have h9 := px_v0_some h
          clear h
          obtain ⟨rfl, h⟩ := h9
          refine e_l_L_law_31 K N N a0 s t _ hl5 _ _ ?_
          show px_E px_ET px_P 38 207 150 [none, none, none, none, none, none, none] [] (px_w K s3 t4) _ _
          refine px_blk (i' := 151) (L' := [none, none, none, none, none, none, none]) (S' := [.int (0 : Int32)]) (w' := px_w K s3 t4) (q := []) 1 hM rfl trivial ?_
          cases h
          exact px_E_ret hM rfl rfl rfl (show (0 : Int32) = 0 ∨ (0 : Int32) = 1 from Or.inl rfl)
        · rw [if_neg hi9] at h
          by_cases hi10 : i1 = 183
          · subst hi10
            rw [if_pos rfl] at h
            have h9 := px_v0_some h
            clear h
            obtain ⟨rfl, h⟩ := h9
            refine e_l_L_law_31 K N N a0 s t _ hl5 _ _ ?_
            show px_E px_ET px_P 38 207 183 [none, none, none, none, none, none, none] [] (px_w K s3 t4) _ _
            refine px_blk (i' := 184) (L' := [none, none, none, none, none, none, none]) (S' := [.int (0 : Int32)]) (w' := px_w K s3 t4) (q := []) 1 hM rfl trivial ?_
            cases h
            exact px_E_ret hM rfl rfl rfl (show (0 : Int32) = 0 ∨ (0 : Int32) = 1 from Or.inl rfl)
          · rw [if_neg hi10] at h
            by_cases hi11 : i1 = 194
            · subst hi11
              rw [if_pos rfl] at h
              have h9 := px_v0_some h
              clear h
              obtain ⟨rfl, h⟩ := h9
              refine e_l_L_law_31 K N N a0 s t _ hl5 _ _ ?_
              show px_E px_ET px_P 38 207 194 [none, none, none, none, none, none, none] [] (px_w K s3 t4) _ _
              refine px_blk (i' := 195) (L' := [none, none, none, none, none, none, none]) (S' := [.int (0 : Int32)]) (w' := px_w K s3 t4) (q := []) 1 hM rfl trivial ?_
              cases h
              exact px_E_ret hM rfl rfl rfl (show (0 : Int32) = 0 ∨ (0 : Int32) = 1 from Or.inl rfl)
            · rw [if_neg hi11] at h
              by_cases hi12 : i1 = 222
              · subst hi12
                rw [if_pos rfl] at h
                have h9 := px_v0_some h
                clear h
                obtain ⟨rfl, h⟩ := h9
                refine e_l_L_law_31 K N N a0 s t _ hl5 _ _ ?_
                show px_E px_ET px_P 38 207 222 [none, none, none, none, none, none, none] [] (px_w K s3 t4) _ _
                refine px_blk (i' := 223) (L' := [none, none, none, none, none, none, none]) (S' := [.int (0 : Int32)]) (w' := px_w K s3 t4) (q := []) 1 hM rfl trivial ?_
                cases h
                exact px_E_ret hM rfl rfl rfl (show (0 : Int32) = 0 ∨ (0 : Int32) = 1 from Or.inl rfl)
              · rw [if_neg hi12] at h
                by_cases hi13 : i1 = 249
                · subst hi13
                  rw [if_pos rfl] at h
                  have h9 := px_v0_some h
                  clear h
                  obtain ⟨rfl, h⟩ := h9
                  refine e_l_L_law_31 K N N a0 s t _ hl5 _ _ ?_
                  show px_E px_ET px_P 38 207 249 [none, none, none, none, none, none, none] [] (px_w K s3 t4) _ _
                  refine px_blk (i' := 250) (L' := [none, none, none, none, none, none, none]) (S' := [.int (0 : Int32)]) (w' := px_w K s3 t4) (q := []) 1 hM rfl trivial ?_
                  cases h
                  exact px_E_ret hM rfl rfl rfl (show (0 : Int32) = 0 ∨ (0 : Int32) = 1 from Or.inl rfl)
                · rw [if_neg hi13] at h
                  by_cases hi14 : i1 = 296
                  · subst hi14
                    rw [if_pos rfl] at h
                    have h9 := px_v0_some h
                    clear h
                    obtain ⟨rfl, h⟩ := h9
                    refine e_l_L_law_31 K N N a0 s t _ hl5 _ _ ?_
                    show px_E px_ET px_P 38 207 296 [none, none, none, none, none, none, none] [] (px_w K s3 t4) _ _
                    refine px_blk (i' := 297) (L' := [none, none, none, none, none, none, none]) (S' := [.int (0 : Int32)]) (w' := px_w K s3 t4) (q := []) 1 hM rfl trivial ?_
                    cases h
                    exact px_E_ret hM rfl rfl rfl (show (0 : Int32) = 0 ∨ (0 : Int32) = 1 from Or.inl rfl)
                  · rw [if_neg hi14] at h
                    by_cases hi15 : i1 = 323
                    · subst hi15
                      rw [if_pos rfl] at h
                      have h9 := px_v0_some h
                      clear h
                      obtain ⟨rfl, h⟩ := h9
                      refine e_l_L_law_31 K N N a0 s t _ hl5 _ _ ?_
                      show px_E px_ET px_P 38 207 323 [none, none, none, none, none, none, none] [] (px_w K s3 t4) _ _
                      refine px_blk (i' := 324) (L' := [none, none, none, none, none, none, none]) (S' := [.int (0 : Int32)]) (w' := px_w K s3 t4) (q := []) 1 hM rfl trivial ?_
                      cases h
                      exact px_E_ret hM rfl rfl rfl (show (0 : Int32) = 0 ∨ (0 : Int32) = 1 from Or.inl rfl)
                    · rw [if_neg hi15] at h
                      by_cases hi16 : i1 = 360
                      · subst hi16
                        rw [if_pos rfl] at h
                        have h9 := px_v0_some h
                        clear h
                        obtain ⟨rfl, h⟩ := h9
                        refine e_l_L_law_31 K N N a0 s t _ hl5 _ _ ?_
                        show px_E px_ET px_P 38 207 360 [none, none, none, none, none, none, none] [] (px_w K s3 t4) _ _
                        refine px_blk (i' := 361) (L' := [none, none, none, none, none, none, none]) (S' := [.int (0 : Int32)]) (w' := px_w K s3 t4) (q := []) 1 hM rfl trivial ?_
                        cases h
                        exact px_E_ret hM rfl rfl rfl (show (0 : Int32) = 0 ∨ (0 : Int32) = 1 from Or.inl rfl)
                      · rw [if_neg hi16] at h
                        by_cases hi17 : i1 = 367
                        · subst hi17
                          rw [if_pos rfl] at h
                          have h9 := px_v0_some h
                          clear h
                          obtain ⟨rfl, h⟩ := h9
                          refine e_l_L_law_31 K N N a0 s t _ hl5 _ _ ?_
                          show px_E px_ET px_P 38 207 367 [none, none, none, none, none, none, none] [] (px_w K s3 t4) _ _
                          refine px_blk (i' := 368) (L' := [none, none, none, none, none, none, none]) (S' := [.int (0 : Int32)]) (w' := px_w K s3 t4) (q := []) 1 hM rfl trivial ?_
                          cases h
                          exact px_E_ret hM rfl rfl rfl (show (0 : Int32) = 0 ∨ (0 : Int32) = 1 from Or.inl rfl)
                        · rw [if_neg hi17] at h
                          by_cases hi18 : i1 = 374
                          · subst hi18
                            rw [if_pos rfl] at h
                            have h9 := px_v0_some h
                            clear h
                            obtain ⟨rfl, h⟩ := h9
                            refine e_l_L_law_31 K N N a0 s t _ hl5 _ _ ?_
                            show px_E px_ET px_P 38 207 374 [none, none, none, none, none, none, none] [] (px_w K s3 t4) _ _
                            refine px_blk (i' := 375) (L' := [none, none, none, none, none, none, none]) (S' := [.int (0 : Int32)]) (w' := px_w K s3 t4) (q := []) 1 hM rfl trivial ?_
                            cases h
                            exact px_E_ret hM rfl rfl rfl (show (0 : Int32) = 0 ∨ (0 : Int32) = 1 from Or.inl rfl)
                          · rw [if_neg hi18] at h
                            by_cases hi19 : i1 = 381
                            · subst hi19
                              rw [if_pos rfl] at h
                              have h9 := px_v0_some h
                              clear h
                              obtain ⟨rfl, h⟩ := h9
                              refine e_l_L_law_31 K N N a0 s t _ hl5 _ _ ?_
                              show px_E px_ET px_P 38 207 381 [none, none, none, none, none, none, none] [] (px_w K s3 t4) _ _
                              refine px_blk (i' := 382) (L' := [none, none, none, none, none, none, none]) (S' := [.int (0 : Int32)]) (w' := px_w K s3 t4) (q := []) 1 hM rfl trivial ?_
                              cases h
                              exact px_E_ret hM rfl rfl rfl (show (0 : Int32) = 0 ∨ (0 : Int32) = 1 from Or.inl rfl)
                            · rw [if_neg hi19] at h
                              by_cases hi20 : i1 = 432
                              · subst hi20
                                rw [if_pos rfl] at h
                                have h9 := px_v0_some h
                                clear h
                                obtain ⟨rfl, h⟩ := h9
                                refine e_l_L_law_31 K N N a0 s t _ hl5 _ _ ?_
                                show px_E px_ET px_P 38 207 432 [none, none, none, none, none, none, none] [] (px_w K s3 t4) _ _
                                refine px_blk (i' := 433) (L' := [none, none, none, none, none, none, none]) (S' := [.int (0 : Int32)]) (w' := px_w K s3 t4) (q := []) 1 hM rfl trivial ?_
                                cases h
                                exact px_E_ret hM rfl rfl rfl (show (0 : Int32) = 0 ∨ (0 : Int32) = 1 from Or.inl rfl)
                              · rw [if_neg hi20] at h
                                by_cases hi21 : i1 = 473
                                · subst hi21
                                  rw [if_pos rfl] at h
                                  have h9 := px_v0_some h
                                  clear h
                                  obtain ⟨rfl, h⟩ := h9
                                  refine e_l_L_law_31 K N N a0 s t _ hl5 _ _ ?_
                                  show px_E px_ET px_P 38 207 473 [none, none, none, none, none, none, none] [] (px_w K s3 t4) _ _
                                  refine px_blk (i' := 474) (L' := [none, none, none, none, none, none, none]) (S' := [.int (0 : Int32)]) (w' := px_w K s3 t4) (q := []) 1 hM rfl trivial ?_
                                  cases h
                                  exact px_E_ret hM rfl rfl rfl (show (0 : Int32) = 0 ∨ (0 : Int32) = 1 from Or.inl rfl)
                                · rw [if_neg hi21] at h
                                  by_cases hi22 : i1 = 514
                                  · subst hi22
                                    rw [if_pos rfl] at h
                                    have h9 := px_v0_some h
                                    clear h
                                    obtain ⟨rfl, h⟩ := h9
                                    refine e_l_L_law_31 K N N a0 s t _ hl5 _ _ ?_
                                    show px_E px_ET px_P 38 207 514 [none, none, none, none, none, none, none] [] (px_w K s3 t4) _ _
                                    refine px_blk (i' := 515) (L' := [none, none, none, none, none, none, none]) (S' := [.int (0 : Int32)]) (w' := px_w K s3 t4) (q := []) 1 hM rfl trivial ?_
                                    cases h
                                    exact px_E_ret hM rfl rfl rfl (show (0 : Int32) = 0 ∨ (0 : Int32) = 1 from Or.inl rfl)
                                  · rw [if_neg hi22] at h
                                    by_cases hi23 : i1 = 583
                                    · subst hi23
                                      rw [if_pos rfl] at h
                                      have h9 := px_v0_some h
                                      clear h
                                      obtain ⟨rfl, h⟩ := h9
                                      refine e_l_L_law_31 K N N a0 s t _ hl5 _ _ ?_
                                      show px_E px_ET px_P 38 207 583 [none, none, none, none, none, none, none] [] (px_w K s3 t4) _ _
                                      refine px_blk (i' := 584) (L' := [none, none, none, none, none, none, none]) (S' := [.int (0 : Int32)]) (w' := px_w K s3 t4) (q := []) 1 hM rfl trivial ?_
                                      cases h
                                      exact px_E_ret hM rfl rfl rfl (show (0 : Int32) = 0 ∨ (0 : Int32) = 1 from Or.inl rfl)
                                    · rw [if_neg hi23] at h
                                      by_cases hi24 : i1 = 590
                                      · subst hi24
                                        rw [if_pos rfl] at h
                                        have h9 := px_v0_some h
                                        clear h
                                        obtain ⟨rfl, h⟩ := h9
                                        refine e_l_L_law_31 K N N a0 s t _ hl5 _ _ ?_
                                        show px_E px_ET px_P 38 207 590 [none, none, none, none, none, none, none] [] (px_w K s3 t4) _ _
                                        refine px_blk (i' := 591) (L' := [none, none, none, none, none, none, none]) (S' := [.int (0 : Int32)]) (w' := px_w K s3 t4) (q := []) 1 hM rfl trivial ?_
                                        cases h
                                        exact px_E_ret hM rfl rfl rfl (show (0 : Int32) = 0 ∨ (0 : Int32) = 1 from Or.inl rfl)
                                      · rw [if_neg hi24] at h
                                        by_cases hi25 : i1 = 617
                                        · subst hi25
                                          rw [if_pos rfl] at h
                                          have h9 := px_v0_some h
                                          clear h
                                          obtain ⟨rfl, h⟩ := h9
                                          refine e_l_L_law_31 K N N a0 s t _ hl5 _ _ ?_
                                          show px_E px_ET px_P 38 207 617 [none, none, none, none, none, none, none] [] (px_w K s3 t4) _ _
                                          refine px_blk (i' := 618) (L' := [none, none, none, none, none, none, none]) (S' := [.int (0 : Int32)]) (w' := px_w K s3 t4) (q := []) 1 hM rfl trivial ?_
                                          cases h
                                          exact px_E_ret hM rfl rfl rfl (show (0 : Int32) = 0 ∨ (0 : Int32) = 1 from Or.inl rfl)
                                        · rw [if_neg hi25] at h
                                          by_cases hi26 : i1 = 672
                                          · subst hi26
                                            rw [if_pos rfl] at h
                                            have h9 := px_v0_some h
                                            clear h
                                            obtain ⟨rfl, h⟩ := h9
                                            refine e_l_L_law_31 K N N a0 s t _ hl5 _ _ ?_
                                            show px_E px_ET px_P 38 207 672 [none, none, none, none, none, none, none] [] (px_w K s3 t4) _ _
                                            refine px_blk (i' := 673) (L' := [none, none, none, none, none, none, none]) (S' := [.int (0 : Int32)]) (w' := px_w K s3 t4) (q := []) 1 hM rfl trivial ?_
                                            cases h
                                            exact px_E_ret hM rfl rfl rfl (show (0 : Int32) = 0 ∨ (0 : Int32) = 1 from Or.inl rfl)
                                          · rw [if_neg hi26] at h
                                            by_cases hi27 : i1 = 689
                                            · subst hi27
                                              rw [if_pos rfl] at h
                                              have h9 := px_v0_some h
                                              clear h
                                              obtain ⟨rfl, h⟩ := h9
                                              refine e_l_L_law_31 K N N a0 s t _ hl5 _ _ ?_
                                              show px_E px_ET px_P 38 207 689 [none, none, none, none, none, none, none] [] (px_w K s3 t4) _ _
                                              refine px_blk (i' := 690) (L' := [none, none, none, none, none, none, none]) (S' := [.int (0 : Int32)]) (w' := px_w K s3 t4) (q := []) 1 hM rfl trivial ?_
                                              cases h
                                              exact px_E_ret hM rfl rfl rfl (show (0 : Int32) = 0 ∨ (0 : Int32) = 1 from Or.inl rfl)
                                            · rw [if_neg hi27] at h
                                              by_cases hi28 : i1 = 693
                                              · subst hi28
                                                rw [if_pos rfl] at h
                                                have h9 := px_v0_some h
                                                clear h
                                                obtain ⟨rfl, h⟩ := h9
                                                refine e_l_L_law_31 K N N a0 s t _ hl5 _ _ ?_
                                                show px_E px_ET px_P 38 207 693 [none, none, none, none, none, none, none] [] (px_w K s3 t4) _ _
                                                refine px_blk (i' := 694) (L' := [none, none, none, none, none, none, none]) (S' := [.int (1 : Int32)]) (w' := px_w K s3 t4) (q := []) 1 hM rfl trivial ?_
                                                cases h
                                                exact px_E_ret hM rfl rfl rfl (show (1 : Int32) = 0 ∨ (1 : Int32) = 1 from Or.inr rfl)
                                              · rw [if_neg hi28] at h
                                                cases h
  · cases h
    exact e_l_L_law_31 K N N a0 s t _ hl5 _ _ ⟨rfl, rfl⟩
