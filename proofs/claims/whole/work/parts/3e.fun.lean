/-! THE METHODS AS FUNCTIONS (by program). -/
noncomputable def f_S_setClean_14 (K : px_K) (N : Nat) (a0 : Int32) (a1 : Int32) (s : px_S) (t : px_W) : Option px_Res :=
  (px_gd (vp_in a0 (K.2.2 15)) (px_let (sA s 15 a0.toNatClampNeg (1 : Int32)) (fun s2 => (px_gd (vp_in a0 (K.2.2 16)) (px_let (sA s2 16 a0.toNatClampNeg a1) (fun s5 => (px_gd (vp_in a0 (K.2.2 17)) (px_let (sA s5 17 a0.toNatClampNeg (0 : Int32)) (fun s8 => (some (.inl none, s8, t)))))))))))
set_option maxRecDepth 100000 in
theorem e_S_setClean_14 (K : px_K) (N : Nat) (a0 : Int32) (a1 : Int32) (s : px_S) (t : px_W) (r : px_Res) (h : f_S_setClean_14 K N a0 a1 s t = some r) : px_E px_ET px_P 1 122 0 (px_ent 3 [.ref 14, .int a0, .int a1]) [] (px_w K s t) r.1 (px_w K r.2.1 r.2.2) := by
  have hM : px_P[122]? = some pm_S_setClean := rfl
  unfold f_S_setClean_14 at h
  obtain ⟨hq1, h⟩ := px_gd_some h
  refine px_blk (i' := 5) (L' := [some (.ref 14), some (.int a0), some (.int a1)]) (S' := []) (w' := px_w K (sA s 15 a0.toNatClampNeg (1 : Int32)) t) (q := [vp_in a0 (K.2.2 15)]) 5 hM rfl (show vp_in a0 (K.2.2 15) from hq1) ?_
  obtain ⟨s2, hs3, h⟩ := px_let_some h
  rw [← hs3]
  obtain ⟨hq4, h⟩ := px_gd_some h
  refine px_blk (i' := 10) (L' := [some (.ref 14), some (.int a0), some (.int a1)]) (S' := []) (w' := px_w K (sA s2 16 a0.toNatClampNeg a1) t) (q := [vp_in a0 (K.2.2 16)]) 5 hM rfl (show vp_in a0 (K.2.2 16) from hq4) ?_
  obtain ⟨s5, hs6, h⟩ := px_let_some h
  rw [← hs6]
  obtain ⟨hq7, h⟩ := px_gd_some h
  refine px_blk (i' := 15) (L' := [some (.ref 14), some (.int a0), some (.int a1)]) (S' := []) (w' := px_w K (sA s5 17 a0.toNatClampNeg (0 : Int32)) t) (q := [vp_in a0 (K.2.2 17)]) 5 hM rfl (show vp_in a0 (K.2.2 17) from hq7) ?_
  obtain ⟨s8, hs9, h⟩ := px_let_some h
  rw [← hs9]
  cases h
  exact px_E_ret hM rfl rfl rfl trivial
noncomputable def f_V_fetch_13_23 (K : px_K) (N : Nat) (a0 : Int32) (s : px_S) (t : px_W) : Option px_Res :=
  (px_bv (f_V_peek_13_23 K N a0 s t) (fun s1 t2 => (if ¬ (s1.1 12) = 0 then (px_bi (f_S_newest_14 K N a0 s1 t2) (fun v10 s7 t8 => (if v10 < 0 then (px_gd (¬ (s7.1 18) = 0) (px_bi (f_S_findIn_14 K N (a0 - a0 / (s7.1 18) * (s7.1 18)) s7 t8) (fun v17 s14 t15 => (if v17 < 0 then (some (.inl none, s14, t15)) else (px_bv (f_D_put_8_6 K N ((50 : Int32) + v17) (((19 : Int32) + a0) * (16 : Int32)) s14 t15) (fun s20 t21 => (px_bv (f_S_setClean_14 K N v17 a0 s20 t21) (fun s25 t26 => (some (.inl none, s25, t26))) (fun x29 s25 t26 => none))) (fun x24 s20 t21 => (some (.inr x24, s20, t21)))))) (fun x18 s14 t15 => none))) else (px_gd (vp_in v10 (K.2.2 18)) (px_let (sA s7 18 v10.toNatClampNeg (1 : Int32)) (fun s31 => (some (.inl none, s31, t8))))))) (fun x11 s7 t8 => none)) else (some (.inl none, s1, t2)))) (fun x5 s1 t2 => none))
set_option maxRecDepth 100000 in
theorem e_V_fetch_13_23 (K : px_K) (N : Nat) (a0 : Int32) (s : px_S) (t : px_W) (r : px_Res) (h : f_V_fetch_13_23 K N a0 s t = some r) : px_E px_ET px_P 10 185 0 (px_ent 4 [.ref 13, .int a0, .ref 23]) [] (px_w K s t) r.1 (px_w K r.2.1 r.2.2) := by
  have hM : px_P[185]? = some pm_V_fetch := rfl
  unfold f_V_fetch_13_23 at h
  refine px_blk (i' := 3) (L' := [some (.ref 13), some (.int a0), some (.ref 23), none]) (S' := [.ref 23, .int a0, .ref 13]) (w' := px_w K s t) (q := []) 3 hM rfl trivial ?_
  rcases px_bv_some h with ⟨s1, t2, hk3, h⟩ | ⟨x5, s1, t2, hk3, h⟩
  · refine px_E_call hM rfl rfl rfl rfl (px_E_mono (by decide) (e_V_peek_13_23 K N a0 s t _ hk3)) ?_
    refine px_blkif (c := ¬ (s1.1 12) = 0) (t := 8) (e := 7) (L' := [some (.ref 13), some (.int a0), some (.ref 23), none]) (S' := []) (w' := px_w K s1 t2) (q := []) 3 hM rfl trivial (fun hc6 => ?_) (fun hc6 => ?_)
    · rw [if_pos hc6] at h
      refine px_blk (i' := 11) (L' := [some (.ref 13), some (.int a0), some (.ref 23), none]) (S' := [.int a0, .ref 14]) (w' := px_w K s1 t2) (q := []) 3 hM rfl trivial ?_
      rcases px_bi_some h with ⟨v10, s7, t8, hk9, h⟩ | ⟨x11, s7, t8, hk9, h⟩
      · refine px_E_call hM rfl rfl rfl rfl (px_E_mono (by decide) (e_S_newest_14 K N a0 s1 t2 _ hk9)) ?_
        refine px_blkif (c := v10 < 0) (t := 22) (e := 15) (L' := [some (.ref 13), some (.int a0), some (.ref 23), some (.int v10)]) (S' := []) (w' := px_w K s7 t8) (q := []) 3 hM rfl trivial (fun hc12 => ?_) (fun hc12 => ?_)
        · rw [if_pos hc12] at h
          obtain ⟨hq13, h⟩ := px_gd_some h
          refine px_blk (i' := 29) (L' := [some (.ref 13), some (.int a0), some (.ref 23), some (.int v10)]) (S' := [.int (a0 - a0 / (s7.1 18) * (s7.1 18)), .ref 14]) (w' := px_w K s7 t8) (q := [¬ (s7.1 18) = 0]) 7 hM rfl (show ¬ (s7.1 18) = 0 from hq13) ?_
          rcases px_bi_some h with ⟨v17, s14, t15, hk16, h⟩ | ⟨x18, s14, t15, hk16, h⟩
          · refine px_E_call hM rfl rfl rfl rfl (px_E_mono (by decide) (e_S_findIn_14 K N (a0 - a0 / (s7.1 18) * (s7.1 18)) s7 t8 _ hk16)) ?_
            refine px_blkif (c := v17 < 0) (t := 52) (e := 33) (L' := [some (.ref 13), some (.int a0), some (.ref 23), some (.int v17)]) (S' := []) (w' := px_w K s14 t15) (q := []) 3 hM rfl trivial (fun hc19 => ?_) (fun hc19 => ?_)
            · rw [if_pos hc19] at h
              cases h
              exact px_E_ret hM rfl rfl rfl trivial
            · rw [if_neg hc19] at h
              refine px_blk (i' := 45) (L' := [some (.ref 13), some (.int a0), some (.ref 23), some (.int v17)]) (S' := [.int (16 : Int32), .int ((19 : Int32) + a0), .ref 6, .int ((50 : Int32) + v17), .ref 8]) (w' := px_w K s14 t15) (q := []) 12 hM rfl trivial ?_
              refine px_blk (i' := 46) (L' := [some (.ref 13), some (.int a0), some (.ref 23), some (.int v17)]) (S' := [.int (((19 : Int32) + a0) * (16 : Int32)), .ref 6, .int ((50 : Int32) + v17), .ref 8]) (w' := px_w K s14 t15) (q := []) 1 hM rfl trivial ?_
              rcases px_bv_some h with ⟨s20, t21, hk22, h⟩ | ⟨x24, s20, t21, hk22, h⟩
              · refine px_E_call hM rfl rfl rfl rfl (px_E_mono (by decide) (e_D_put_8_6 K N ((50 : Int32) + v17) (((19 : Int32) + a0) * (16 : Int32)) s14 t15 _ hk22)) ?_
                refine px_blk (i' := 51) (L' := [some (.ref 13), some (.int a0), some (.ref 23), some (.int v17)]) (S' := [.int a0, .int v17, .ref 14]) (w' := px_w K s20 t21) (q := []) 4 hM rfl trivial ?_
                rcases px_bv_some h with ⟨s25, t26, hk27, h⟩ | ⟨x29, s25, t26, hk27, h⟩
                · refine px_E_call hM rfl rfl rfl rfl (px_E_mono (by decide) (e_S_setClean_14 K N v17 a0 s20 t21 _ hk27)) ?_
                  cases h
                  exact px_E_ret hM rfl rfl rfl trivial
                · cases h
              · cases h
                exact px_E_callT hM rfl rfl rfl rfl (px_E_mono (by decide) (e_D_put_8_6 K N ((50 : Int32) + v17) (((19 : Int32) + a0) * (16 : Int32)) s14 t15 _ hk22)) rfl
          · cases h
        · rw [if_neg hc12] at h
          obtain ⟨hq30, h⟩ := px_gd_some h
          refine px_blk (i' := 21) (L' := [some (.ref 13), some (.int a0), some (.ref 23), some (.int v10)]) (S' := []) (w' := px_w K (sA s7 18 v10.toNatClampNeg (1 : Int32)) t8) (q := [vp_in v10 (K.2.2 18)]) 6 hM rfl (show vp_in v10 (K.2.2 18) from hq30) ?_
          obtain ⟨s31, hs32, h⟩ := px_let_some h
          rw [← hs32]
          cases h
          exact px_E_ret hM rfl rfl rfl trivial
      · cases h
    · rw [if_neg hc6] at h
      cases h
      exact px_E_ret hM rfl rfl rfl trivial
  · cases h
noncomputable def f_T_loadFileBlock_22 (K : px_K) (N : Nat) (a0 : Int32) (s : px_S) (t : px_W) : Option px_Res :=
  (if a0 < (42 : Int32) then (some (.inl none, s, t)) else (if (106 : Int32) ≤ a0 then (some (.inl none, s, t)) else (px_gd (vp_in a0 (K.2.2 25)) (if ¬ ((s.2.2.1 25) a0.toNatClampNeg) = 0 then (some (.inl none, s, t)) else (px_gd (vp_in a0 (K.2.2 26)) (if ¬ ((s.2.2.1 26) a0.toNatClampNeg) = 0 then (some (.inl none, s, t)) else (px_bv (f_V_fetch_13_23 K N a0 s t) (fun s7 t8 => (some (.inl none, s7, t8))) (fun x11 s7 t8 => (some (.inr x11, s7, t8))))))))))
set_option maxRecDepth 100000 in
theorem e_T_loadFileBlock_22 (K : px_K) (N : Nat) (a0 : Int32) (s : px_S) (t : px_W) (r : px_Res) (h : f_T_loadFileBlock_22 K N a0 s t = some r) : px_E px_ET px_P 11 164 0 (px_ent 2 [.ref 22, .int a0]) [] (px_w K s t) r.1 (px_w K r.2.1 r.2.2) := by
  have hM : px_P[164]? = some pm_T_loadFileBlock := rfl
  unfold f_T_loadFileBlock_22 at h
  refine px_blkif (c := a0 < (42 : Int32)) (t := 22) (e := 3) (L' := [some (.ref 22), some (.int a0)]) (S' := []) (w' := px_w K s t) (q := []) 3 hM rfl trivial (fun hc1 => ?_) (fun hc1 => ?_)
  · rw [if_pos hc1] at h
    cases h
    exact px_E_ret hM rfl rfl rfl trivial
  · rw [if_neg hc1] at h
    refine px_blkif (c := (106 : Int32) ≤ a0) (t := 22) (e := 6) (L' := [some (.ref 22), some (.int a0)]) (S' := []) (w' := px_w K s t) (q := []) 3 hM rfl trivial (fun hc2 => ?_) (fun hc2 => ?_)
    · rw [if_pos hc2] at h
      cases h
      exact px_E_ret hM rfl rfl rfl trivial
    · rw [if_neg hc2] at h
      obtain ⟨hq3, h⟩ := px_gd_some h
      refine px_blkif (c := ¬ ((s.2.2.1 25) a0.toNatClampNeg) = 0) (t := 22) (e := 11) (L' := [some (.ref 22), some (.int a0)]) (S' := []) (w' := px_w K s t) (q := [vp_in a0 (K.2.2 25)]) 5 hM rfl (show vp_in a0 (K.2.2 25) from hq3) (fun hc4 => ?_) (fun hc4 => ?_)
      · rw [if_pos hc4] at h
        cases h
        exact px_E_ret hM rfl rfl rfl trivial
      · rw [if_neg hc4] at h
        obtain ⟨hq5, h⟩ := px_gd_some h
        refine px_blkif (c := ¬ ((s.2.2.1 26) a0.toNatClampNeg) = 0) (t := 22) (e := 16) (L' := [some (.ref 22), some (.int a0)]) (S' := []) (w' := px_w K s t) (q := [vp_in a0 (K.2.2 26)]) 5 hM rfl (show vp_in a0 (K.2.2 26) from hq5) (fun hc6 => ?_) (fun hc6 => ?_)
        · rw [if_pos hc6] at h
          cases h
          exact px_E_ret hM rfl rfl rfl trivial
        · rw [if_neg hc6] at h
          refine px_blk (i' := 21) (L' := [some (.ref 22), some (.int a0)]) (S' := [.ref 23, .int a0, .ref 13]) (w' := px_w K s t) (q := []) 5 hM rfl trivial ?_
          rcases px_bv_some h with ⟨s7, t8, hk9, h⟩ | ⟨x11, s7, t8, hk9, h⟩
          · refine px_E_call hM rfl rfl rfl rfl (px_E_mono (by decide) (e_V_fetch_13_23 K N a0 s t _ hk9)) ?_
            cases h
            exact px_E_ret hM rfl rfl rfl trivial
          · cases h
            exact px_E_callT hM rfl rfl rfl rfl (px_E_mono (by decide) (e_V_fetch_13_23 K N a0 s t _ hk9)) rfl
noncomputable def f_T_writeInt_22 (K : px_K) (N : Nat) (a0 : Int32) (a1 : Int32) (a2 : Int32) (s : px_S) (t : px_W) : Option px_Res :=
  (px_bi (f_T_isFile_22 K N a0 s t) (fun v4 s1 t2 => (if v4 = 0 then (some (.inl (some (.int (-4 : Int32))), s1, t2)) else (if a1 < 0 then (some (.inl (some (.int (-4 : Int32))), s1, t2)) else (if a1 < (320 : Int32) then (px_bi (f_T_blockOf_22 K N a0 (a1 / (16 : Int32)) s1 t2) (fun v12 s9 t10 => (if v12 = 0 then (px_bi (f_T_addBlock_22 K N a0 (a1 / (16 : Int32)) s9 t10) (fun v18 s15 t16 => (if ¬ v18 = 0 then (px_bv (f_T_tell_22 K N v18 (a1 - a1 / (16 : Int32) * (16 : Int32)) a2 s15 t16) (fun s21 t22 => (px_bi (f_T_inodeWord_22 K N a0 (1 : Int32) s21 t22) (fun v29 s26 t27 => (if a1 < v29 then (px_bi (f_T_inodeWord_22 K N a0 (1 : Int32) s26 t27) (fun v35 s32 t33 => (some (.inl (some (.int v35)), s32, t33))) (fun x36 s32 t33 => none)) else (px_bv (f_T_tellInode_22 K N a0 (1 : Int32) (a1 + (1 : Int32)) s26 t27) (fun s37 t38 => (px_bi (f_T_inodeWord_22 K N a0 (1 : Int32) s37 t38) (fun v45 s42 t43 => (some (.inl (some (.int v45)), s42, t43))) (fun x46 s42 t43 => none))) (fun x41 s37 t38 => none)))) (fun x30 s26 t27 => none))) (fun x25 s21 t22 => none)) else (some (.inl (some (.int (-3 : Int32))), s15, t16)))) (fun x19 s15 t16 => none)) else (px_bv (f_T_loadFileBlock_22 K N v12 s9 t10) (fun s47 t48 => (if ¬ v12 = 0 then (px_bv (f_T_tell_22 K N v12 (a1 - a1 / (16 : Int32) * (16 : Int32)) a2 s47 t48) (fun s53 t54 => (px_bi (f_T_inodeWord_22 K N a0 (1 : Int32) s53 t54) (fun v61 s58 t59 => (if a1 < v61 then (px_bi (f_T_inodeWord_22 K N a0 (1 : Int32) s58 t59) (fun v67 s64 t65 => (some (.inl (some (.int v67)), s64, t65))) (fun x68 s64 t65 => none)) else (px_bv (f_T_tellInode_22 K N a0 (1 : Int32) (a1 + (1 : Int32)) s58 t59) (fun s69 t70 => (px_bi (f_T_inodeWord_22 K N a0 (1 : Int32) s69 t70) (fun v77 s74 t75 => (some (.inl (some (.int v77)), s74, t75))) (fun x78 s74 t75 => none))) (fun x73 s69 t70 => none)))) (fun x62 s58 t59 => none))) (fun x57 s53 t54 => none)) else (some (.inl (some (.int (-3 : Int32))), s47, t48)))) (fun x51 s47 t48 => (some (.inr x51, s47, t48)))))) (fun x13 s9 t10 => none)) else (some (.inl (some (.int (-4 : Int32))), s1, t2)))))) (fun x5 s1 t2 => none))
set_option maxRecDepth 100000 in
theorem e_T_writeInt_22 (K : px_K) (N : Nat) (a0 : Int32) (a1 : Int32) (a2 : Int32) (s : px_S) (t : px_W) (r : px_Res) (h : f_T_writeInt_22 K N a0 a1 a2 s t = some r) : px_E px_ET px_P 12 165 0 (px_ent 5 [.ref 22, .int a0, .int a1, .int a2]) [] (px_w K s t) r.1 (px_w K r.2.1 r.2.2) := by
  have hM : px_P[165]? = some pm_T_writeInt := rfl
  unfold f_T_writeInt_22 at h
  refine px_blk (i' := 2) (L' := [some (.ref 22), some (.int a0), some (.int a1), some (.int a2), none]) (S' := [.int a0, .ref 22]) (w' := px_w K s t) (q := []) 2 hM rfl trivial ?_
  rcases px_bi_some h with ⟨v4, s1, t2, hk3, h⟩ | ⟨x5, s1, t2, hk3, h⟩
  · refine px_E_call hM rfl rfl rfl rfl (px_E_mono (by decide) (e_T_isFile_22 K N a0 s t _ hk3)) ?_
    refine px_blkif (c := v4 = 0) (t := 9) (e := 4) (L' := [some (.ref 22), some (.int a0), some (.int a1), some (.int a2), none]) (S' := []) (w' := px_w K s1 t2) (q := []) 1 hM rfl trivial (fun hc6 => ?_) (fun hc6 => ?_)
    · rw [if_pos hc6] at h
      refine px_blk (i' := 10) (L' := [some (.ref 22), some (.int a0), some (.int a1), some (.int a2), none]) (S' := [.int (-4 : Int32)]) (w' := px_w K s1 t2) (q := []) 1 hM rfl trivial ?_
      cases h
      exact px_E_ret hM rfl rfl rfl trivial
    · rw [if_neg hc6] at h
      refine px_blkif (c := a1 < 0) (t := 9) (e := 6) (L' := [some (.ref 22), some (.int a0), some (.int a1), some (.int a2), none]) (S' := []) (w' := px_w K s1 t2) (q := []) 2 hM rfl trivial (fun hc7 => ?_) (fun hc7 => ?_)
      · rw [if_pos hc7] at h
        refine px_blk (i' := 10) (L' := [some (.ref 22), some (.int a0), some (.int a1), some (.int a2), none]) (S' := [.int (-4 : Int32)]) (w' := px_w K s1 t2) (q := []) 1 hM rfl trivial ?_
        cases h
        exact px_E_ret hM rfl rfl rfl trivial
      · rw [if_neg hc7] at h
        refine px_blkif (c := a1 < (320 : Int32)) (t := 11) (e := 9) (L' := [some (.ref 22), some (.int a0), some (.int a1), some (.int a2), none]) (S' := []) (w' := px_w K s1 t2) (q := []) 3 hM rfl trivial (fun hc8 => ?_) (fun hc8 => ?_)
        · rw [if_pos hc8] at h
          refine px_blk (i' := 16) (L' := [some (.ref 22), some (.int a0), some (.int a1), some (.int a2), none]) (S' := [.int (a1 / (16 : Int32)), .int a0, .ref 22]) (w' := px_w K s1 t2) (q := [¬ (16 : Int32) = 0]) 5 hM rfl (show ¬ (16 : Int32) = 0 from (by decide)) ?_
          rcases px_bi_some h with ⟨v12, s9, t10, hk11, h⟩ | ⟨x13, s9, t10, hk11, h⟩
          · refine px_E_call hM rfl rfl rfl rfl (px_E_mono (by decide) (e_T_blockOf_22 K N a0 (a1 / (16 : Int32)) s1 t2 _ hk11)) ?_
            refine px_blkif (c := v12 = 0) (t := 24) (e := 20) (L' := [some (.ref 22), some (.int a0), some (.int a1), some (.int a2), some (.int v12)]) (S' := []) (w' := px_w K s9 t10) (q := []) 3 hM rfl trivial (fun hc14 => ?_) (fun hc14 => ?_)
            · rw [if_pos hc14] at h
              refine px_blk (i' := 29) (L' := [some (.ref 22), some (.int a0), some (.int a1), some (.int a2), some (.int v12)]) (S' := [.int (a1 / (16 : Int32)), .int a0, .ref 22]) (w' := px_w K s9 t10) (q := [¬ (16 : Int32) = 0]) 5 hM rfl (show ¬ (16 : Int32) = 0 from (by decide)) ?_
              rcases px_bi_some h with ⟨v18, s15, t16, hk17, h⟩ | ⟨x19, s15, t16, hk17, h⟩
              · refine px_E_call hM rfl rfl rfl rfl (px_E_mono (by decide) (e_T_addBlock_22 K N a0 (a1 / (16 : Int32)) s9 t10 _ hk17)) ?_
                refine px_blkif (c := ¬ v18 = 0) (t := 35) (e := 33) (L' := [some (.ref 22), some (.int a0), some (.int a1), some (.int a2), some (.int v18)]) (S' := []) (w' := px_w K s15 t16) (q := []) 3 hM rfl trivial (fun hc20 => ?_) (fun hc20 => ?_)
                · rw [if_pos hc20] at h
                  refine px_blk (i' := 41) (L' := [some (.ref 22), some (.int a0), some (.int a1), some (.int a2), some (.int v18)]) (S' := [.int a2, .int (a1 - a1 / (16 : Int32) * (16 : Int32)), .int v18, .ref 22]) (w' := px_w K s15 t16) (q := [¬ (16 : Int32) = 0]) 6 hM rfl (show ¬ (16 : Int32) = 0 from (by decide)) ?_
                  rcases px_bv_some h with ⟨s21, t22, hk23, h⟩ | ⟨x25, s21, t22, hk23, h⟩
                  · refine px_E_call hM rfl rfl rfl rfl (px_E_mono (by decide) (e_T_tell_22 K N v18 (a1 - a1 / (16 : Int32) * (16 : Int32)) a2 s15 t16 _ hk23)) ?_
                    refine px_blk (i' := 46) (L' := [some (.ref 22), some (.int a0), some (.int a1), some (.int a2), some (.int v18)]) (S' := [.int (1 : Int32), .int a0, .ref 22, .int a1]) (w' := px_w K s21 t22) (q := []) 4 hM rfl trivial ?_
                    rcases px_bi_some h with ⟨v29, s26, t27, hk28, h⟩ | ⟨x30, s26, t27, hk28, h⟩
                    · refine px_E_call hM rfl rfl rfl rfl (px_E_mono (by decide) (e_T_inodeWord_22 K N a0 (1 : Int32) s21 t22 _ hk28)) ?_
                      refine px_blkif (c := a1 < v29) (t := 55) (e := 48) (L' := [some (.ref 22), some (.int a0), some (.int a1), some (.int a2), some (.int v18)]) (S' := []) (w' := px_w K s26 t27) (q := []) 1 hM rfl trivial (fun hc31 => ?_) (fun hc31 => ?_)
                      · rw [if_pos hc31] at h
                        refine px_blk (i' := 58) (L' := [some (.ref 22), some (.int a0), some (.int a1), some (.int a2), some (.int v18)]) (S' := [.int (1 : Int32), .int a0, .ref 22]) (w' := px_w K s26 t27) (q := []) 3 hM rfl trivial ?_
                        rcases px_bi_some h with ⟨v35, s32, t33, hk34, h⟩ | ⟨x36, s32, t33, hk34, h⟩
                        · refine px_E_call hM rfl rfl rfl rfl (px_E_mono (by decide) (e_T_inodeWord_22 K N a0 (1 : Int32) s26 t27 _ hk34)) ?_
                          cases h
                          exact px_E_ret hM rfl rfl rfl trivial
                        · cases h
                      · rw [if_neg hc31] at h
                        refine px_blk (i' := 54) (L' := [some (.ref 22), some (.int a0), some (.int a1), some (.int a2), some (.int v18)]) (S' := [.int (a1 + (1 : Int32)), .int (1 : Int32), .int a0, .ref 22]) (w' := px_w K s26 t27) (q := []) 6 hM rfl trivial ?_
                        rcases px_bv_some h with ⟨s37, t38, hk39, h⟩ | ⟨x41, s37, t38, hk39, h⟩
                        · refine px_E_call hM rfl rfl rfl rfl (px_E_mono (by decide) (e_T_tellInode_22 K N a0 (1 : Int32) (a1 + (1 : Int32)) s26 t27 _ hk39)) ?_
                          refine px_blk (i' := 58) (L' := [some (.ref 22), some (.int a0), some (.int a1), some (.int a2), some (.int v18)]) (S' := [.int (1 : Int32), .int a0, .ref 22]) (w' := px_w K s37 t38) (q := []) 3 hM rfl trivial ?_
                          rcases px_bi_some h with ⟨v45, s42, t43, hk44, h⟩ | ⟨x46, s42, t43, hk44, h⟩
                          · refine px_E_call hM rfl rfl rfl rfl (px_E_mono (by decide) (e_T_inodeWord_22 K N a0 (1 : Int32) s37 t38 _ hk44)) ?_
                            cases h
                            exact px_E_ret hM rfl rfl rfl trivial
                          · cases h
                        · cases h
                    · cases h
                  · cases h
                · rw [if_neg hc20] at h
                  refine px_blk (i' := 34) (L' := [some (.ref 22), some (.int a0), some (.int a1), some (.int a2), some (.int v18)]) (S' := [.int (-3 : Int32)]) (w' := px_w K s15 t16) (q := []) 1 hM rfl trivial ?_
                  cases h
                  exact px_E_ret hM rfl rfl rfl trivial
              · cases h
            · rw [if_neg hc14] at h
              refine px_blk (i' := 22) (L' := [some (.ref 22), some (.int a0), some (.int a1), some (.int a2), some (.int v12)]) (S' := [.int v12, .ref 22]) (w' := px_w K s9 t10) (q := []) 2 hM rfl trivial ?_
              rcases px_bv_some h with ⟨s47, t48, hk49, h⟩ | ⟨x51, s47, t48, hk49, h⟩
              · refine px_E_call hM rfl rfl rfl rfl (px_E_mono (by decide) (e_T_loadFileBlock_22 K N v12 s9 t10 _ hk49)) ?_
                refine px_blkif (c := ¬ v12 = 0) (t := 35) (e := 33) (L' := [some (.ref 22), some (.int a0), some (.int a1), some (.int a2), some (.int v12)]) (S' := []) (w' := px_w K s47 t48) (q := []) 3 hM rfl trivial (fun hc52 => ?_) (fun hc52 => ?_)
                · rw [if_pos hc52] at h
                  refine px_blk (i' := 41) (L' := [some (.ref 22), some (.int a0), some (.int a1), some (.int a2), some (.int v12)]) (S' := [.int a2, .int (a1 - a1 / (16 : Int32) * (16 : Int32)), .int v12, .ref 22]) (w' := px_w K s47 t48) (q := [¬ (16 : Int32) = 0]) 6 hM rfl (show ¬ (16 : Int32) = 0 from (by decide)) ?_
                  rcases px_bv_some h with ⟨s53, t54, hk55, h⟩ | ⟨x57, s53, t54, hk55, h⟩
                  · refine px_E_call hM rfl rfl rfl rfl (px_E_mono (by decide) (e_T_tell_22 K N v12 (a1 - a1 / (16 : Int32) * (16 : Int32)) a2 s47 t48 _ hk55)) ?_
                    refine px_blk (i' := 46) (L' := [some (.ref 22), some (.int a0), some (.int a1), some (.int a2), some (.int v12)]) (S' := [.int (1 : Int32), .int a0, .ref 22, .int a1]) (w' := px_w K s53 t54) (q := []) 4 hM rfl trivial ?_
                    rcases px_bi_some h with ⟨v61, s58, t59, hk60, h⟩ | ⟨x62, s58, t59, hk60, h⟩
                    · refine px_E_call hM rfl rfl rfl rfl (px_E_mono (by decide) (e_T_inodeWord_22 K N a0 (1 : Int32) s53 t54 _ hk60)) ?_
                      refine px_blkif (c := a1 < v61) (t := 55) (e := 48) (L' := [some (.ref 22), some (.int a0), some (.int a1), some (.int a2), some (.int v12)]) (S' := []) (w' := px_w K s58 t59) (q := []) 1 hM rfl trivial (fun hc63 => ?_) (fun hc63 => ?_)
                      · rw [if_pos hc63] at h
                        refine px_blk (i' := 58) (L' := [some (.ref 22), some (.int a0), some (.int a1), some (.int a2), some (.int v12)]) (S' := [.int (1 : Int32), .int a0, .ref 22]) (w' := px_w K s58 t59) (q := []) 3 hM rfl trivial ?_
                        rcases px_bi_some h with ⟨v67, s64, t65, hk66, h⟩ | ⟨x68, s64, t65, hk66, h⟩
                        · refine px_E_call hM rfl rfl rfl rfl (px_E_mono (by decide) (e_T_inodeWord_22 K N a0 (1 : Int32) s58 t59 _ hk66)) ?_
                          cases h
                          exact px_E_ret hM rfl rfl rfl trivial
                        · cases h
                      · rw [if_neg hc63] at h
                        refine px_blk (i' := 54) (L' := [some (.ref 22), some (.int a0), some (.int a1), some (.int a2), some (.int v12)]) (S' := [.int (a1 + (1 : Int32)), .int (1 : Int32), .int a0, .ref 22]) (w' := px_w K s58 t59) (q := []) 6 hM rfl trivial ?_
                        rcases px_bv_some h with ⟨s69, t70, hk71, h⟩ | ⟨x73, s69, t70, hk71, h⟩
                        · refine px_E_call hM rfl rfl rfl rfl (px_E_mono (by decide) (e_T_tellInode_22 K N a0 (1 : Int32) (a1 + (1 : Int32)) s58 t59 _ hk71)) ?_
                          refine px_blk (i' := 58) (L' := [some (.ref 22), some (.int a0), some (.int a1), some (.int a2), some (.int v12)]) (S' := [.int (1 : Int32), .int a0, .ref 22]) (w' := px_w K s69 t70) (q := []) 3 hM rfl trivial ?_
                          rcases px_bi_some h with ⟨v77, s74, t75, hk76, h⟩ | ⟨x78, s74, t75, hk76, h⟩
                          · refine px_E_call hM rfl rfl rfl rfl (px_E_mono (by decide) (e_T_inodeWord_22 K N a0 (1 : Int32) s69 t70 _ hk76)) ?_
                            cases h
                            exact px_E_ret hM rfl rfl rfl trivial
                          · cases h
                        · cases h
                    · cases h
                  · cases h
                · rw [if_neg hc52] at h
                  refine px_blk (i' := 34) (L' := [some (.ref 22), some (.int a0), some (.int a1), some (.int a2), some (.int v12)]) (S' := [.int (-3 : Int32)]) (w' := px_w K s47 t48) (q := []) 1 hM rfl trivial ?_
                  cases h
                  exact px_E_ret hM rfl rfl rfl trivial
              · cases h
                exact px_E_callT hM rfl rfl rfl rfl (px_E_mono (by decide) (e_T_loadFileBlock_22 K N v12 s9 t10 _ hk49)) rfl
          · cases h
        · rw [if_neg hc8] at h
          refine px_blk (i' := 10) (L' := [some (.ref 22), some (.int a0), some (.int a1), some (.int a2), none]) (S' := [.int (-4 : Int32)]) (w' := px_w K s1 t2) (q := []) 1 hM rfl trivial ?_
          cases h
          exact px_E_ret hM rfl rfl rfl trivial
  · cases h
noncomputable def f_E_write_1 (K : px_K) (N : Nat) (a0 : Int32) (a1 : Int32) (a2 : Int32) (s : px_S) (t : px_W) : Option px_Res :=
  (if ¬ (s.1 0) = 0 then (px_bv (f_T_commitAbove_22 K N (7 : Int32) s t) (fun s2 t3 => (px_bi (f_T_writeInt_22 K N a0 a1 a2 s2 t3) (fun v10 s7 t8 => (some (.inl (some (.int v10)), s7, t8))) (fun x11 s7 t8 => (px_gd (px_isx t8 x11 7) (px_bi (f_E_goDown_1 K N (s7.2.1 2) s7 t8) (fun v15 s12 t13 => (some (.inl (some (.int v15)), s12, t13))) (fun x16 s12 t13 => none)))))) (fun x6 s2 t3 => (px_gd (px_isx t3 x6 7) (px_bi (f_E_goDown_1 K N (s2.2.1 2) s2 t3) (fun v21 s18 t19 => (some (.inl (some (.int v21)), s18, t19))) (fun x22 s18 t19 => none))))) else (some (.inl (some (.int (-9 : Int32))), s, t)))
set_option maxRecDepth 100000 in
theorem e_E_write_1 (K : px_K) (N : Nat) (a0 : Int32) (a1 : Int32) (a2 : Int32) (s : px_S) (t : px_W) (r : px_Res) (h : f_E_write_1 K N a0 a1 a2 s t = some r) : px_E px_ET px_P 15 3 0 (px_ent 5 [.ref 1, .int a0, .int a1, .int a2]) [] (px_w K s t) r.1 (px_w K r.2.1 r.2.2) := by
  have hM : px_P[3]? = some pm_E_write := rfl
  unfold f_E_write_1 at h
  refine px_blkif (c := ¬ (s.1 0) = 0) (t := 6) (e := 4) (L' := [some (.ref 1), some (.int a0), some (.int a1), some (.int a2), none]) (S' := []) (w' := px_w K s t) (q := []) 4 hM rfl trivial (fun hc1 => ?_) (fun hc1 => ?_)
  · rw [if_pos hc1] at h
    refine px_blk (i' := 9) (L' := [some (.ref 1), some (.int a0), some (.int a1), some (.int a2), none]) (S' := [.int (7 : Int32), .ref 22]) (w' := px_w K s t) (q := []) 3 hM rfl trivial ?_
    rcases px_bv_some h with ⟨s2, t3, hk4, h⟩ | ⟨x6, s2, t3, hk4, h⟩
    · refine px_E_call hM rfl rfl rfl rfl (px_E_mono (by decide) (e_T_commitAbove_22 K N (7 : Int32) s t _ hk4)) ?_
      refine px_blk (i' := 15) (L' := [some (.ref 1), some (.int a0), some (.int a1), some (.int a2), none]) (S' := [.int a2, .int a1, .int a0, .ref 22]) (w' := px_w K s2 t3) (q := []) 5 hM rfl trivial ?_
      rcases px_bi_some h with ⟨v10, s7, t8, hk9, h⟩ | ⟨x11, s7, t8, hk9, h⟩
      · refine px_E_call hM rfl rfl rfl rfl (px_E_mono (by decide) (e_T_writeInt_22 K N a0 a1 a2 s2 t3 _ hk9)) ?_
        cases h
        exact px_E_ret hM rfl rfl rfl trivial
      · obtain ⟨hx17, h⟩ := px_gd_some h
        refine px_E_callC hM rfl rfl rfl rfl (px_E_mono (by decide) (e_T_writeInt_22 K N a0 a1 a2 s2 t3 _ hk9)) (px_hnd_of rfl rfl hx17) ?_
        refine px_blk (i' := 22) (L' := [some (.ref 1), some (.int a0), some (.int a1), some (.int a2), some (.ref (x11))]) (S' := [.long (s7.2.1 2), .ref 1]) (w' := px_w K s7 t8) (q := []) 5 hM rfl trivial ?_
        rcases px_bi_some h with ⟨v15, s12, t13, hk14, h⟩ | ⟨x16, s12, t13, hk14, h⟩
        · refine px_E_call hM rfl rfl rfl rfl (px_E_mono (by decide) (e_E_goDown_1 K N (s7.2.1 2) s7 t8 _ hk14)) ?_
          cases h
          exact px_E_ret hM rfl rfl rfl trivial
        · cases h
    · obtain ⟨hx23, h⟩ := px_gd_some h
      refine px_E_callC hM rfl rfl rfl rfl (px_E_mono (by decide) (e_T_commitAbove_22 K N (7 : Int32) s t _ hk4)) (px_hnd_of rfl rfl hx23) ?_
      refine px_blk (i' := 22) (L' := [some (.ref 1), some (.int a0), some (.int a1), some (.int a2), some (.ref (x6))]) (S' := [.long (s2.2.1 2), .ref 1]) (w' := px_w K s2 t3) (q := []) 5 hM rfl trivial ?_
      rcases px_bi_some h with ⟨v21, s18, t19, hk20, h⟩ | ⟨x22, s18, t19, hk20, h⟩
      · refine px_E_call hM rfl rfl rfl rfl (px_E_mono (by decide) (e_E_goDown_1 K N (s2.2.1 2) s2 t3 _ hk20)) ?_
        cases h
        exact px_E_ret hM rfl rfl rfl trivial
      · cases h
  · rw [if_neg hc1] at h
    refine px_blk (i' := 5) (L' := [some (.ref 1), some (.int a0), some (.int a1), some (.int a2), none]) (S' := [.int (-9 : Int32)]) (w' := px_w K s t) (q := []) 1 hM rfl trivial ?_
    cases h
    exact px_E_ret hM rfl rfl rfl trivial
noncomputable def f_E_isLoaded_1 (K : px_K) (N : Nat) (a0 : Int32) (s : px_S) (t : px_W) : Option px_Res :=
  (px_bv (f_T_loadFileBlock_22 K N a0 s t) (fun s1 t2 => (some (.inl (some (.int (1 : Int32))), s1, t2))) (fun x5 s1 t2 => (px_gd (px_isx t2 x5 7) (px_bi (f_E_goDown_1 K N (s1.2.1 2) s1 t2) (fun v9 s6 t7 => (some (.inl (some (.int (0 : Int32))), s6, t7))) (fun x10 s6 t7 => none)))))
set_option maxRecDepth 100000 in
theorem e_E_isLoaded_1 (K : px_K) (N : Nat) (a0 : Int32) (s : px_S) (t : px_W) (r : px_Res) (h : f_E_isLoaded_1 K N a0 s t = some r) : px_E px_ET px_P 12 21 0 (px_ent 3 [.ref 1, .int a0]) [] (px_w K s t) r.1 (px_w K r.2.1 r.2.2) := by
  have hM : px_P[21]? = some pm_E_isLoaded := rfl
  unfold f_E_isLoaded_1 at h
  refine px_blk (i' := 3) (L' := [some (.ref 1), some (.int a0), none]) (S' := [.int a0, .ref 22]) (w' := px_w K s t) (q := []) 3 hM rfl trivial ?_
  rcases px_bv_some h with ⟨s1, t2, hk3, h⟩ | ⟨x5, s1, t2, hk3, h⟩
  · refine px_E_call hM rfl rfl rfl rfl (px_E_mono (by decide) (e_T_loadFileBlock_22 K N a0 s t _ hk3)) ?_
    refine px_blk (i' := 5) (L' := [some (.ref 1), some (.int a0), none]) (S' := [.int (1 : Int32)]) (w' := px_w K s1 t2) (q := []) 1 hM rfl trivial ?_
    cases h
    exact px_E_ret hM rfl rfl rfl (show (1 : Int32) = 0 ∨ (1 : Int32) = 1 from Or.inr rfl)
  · obtain ⟨hx11, h⟩ := px_gd_some h
    refine px_E_callC hM rfl rfl rfl rfl (px_E_mono (by decide) (e_T_loadFileBlock_22 K N a0 s t _ hk3)) (px_hnd_of rfl rfl hx11) ?_
    refine px_blk (i' := 11) (L' := [some (.ref 1), some (.int a0), some (.ref (x5))]) (S' := [.long (s1.2.1 2), .ref 1]) (w' := px_w K s1 t2) (q := []) 5 hM rfl trivial ?_
    rcases px_bi_some h with ⟨v9, s6, t7, hk8, h⟩ | ⟨x10, s6, t7, hk8, h⟩
    · refine px_E_call hM rfl rfl rfl rfl (px_E_mono (by decide) (e_E_goDown_1 K N (s1.2.1 2) s1 t2 _ hk8)) ?_
      refine px_blk (i' := 14) (L' := [some (.ref 1), some (.int a0), some (.ref (x5))]) (S' := [.int (0 : Int32)]) (w' := px_w K s6 t7) (q := []) 2 hM rfl trivial ?_
      cases h
      exact px_E_ret hM rfl rfl rfl (show (0 : Int32) = 0 ∨ (0 : Int32) = 1 from Or.inl rfl)
    · cases h
noncomputable def f_E_read_1 (K : px_K) (N : Nat) (a0 : Int32) (a1 : Int32) (s : px_S) (t : px_W) : Option px_Res :=
  (if ¬ (s.1 0) = 0 then (px_bi (f_T_isFile_22 K N a0 s t) (fun v5 s2 t3 => (if v5 = 0 then (some (.inr (t3.length + 47), s2, t3 ++ [px_exc 8])) else (if a1 < 0 then (some (.inr (t3.length + 47), s2, t3 ++ [px_exc 8])) else (if a1 < (320 : Int32) then (px_bi (f_T_blockOf_22 K N a0 (a1 / (16 : Int32)) s2 t3) (fun v13 s10 t11 => (if ¬ v13 = 0 then (px_bi (f_E_isLoaded_1 K N v13 s10 t11) (fun v19 s16 t17 => (if ¬ v19 = 0 then (px_bi (f_T_inodeWord_22 K N a0 (1 : Int32) s16 t17) (fun v25 s22 t23 => (if v25 ≤ a1 then (some (.inl (some (.int (0 : Int32))), s22, t23)) else (px_bi (f_T_at_22 K N v13 (a1 - a1 / (16 : Int32) * (16 : Int32)) s22 t23) (fun v31 s28 t29 => (some (.inl (some (.int v31)), s28, t29))) (fun x32 s28 t29 => none)))) (fun x26 s22 t23 => none)) else (some (.inr (t17.length + 47), s16, t17 ++ [px_exc 7])))) (fun x20 s16 t17 => none)) else (some (.inl (some (.int (0 : Int32))), s10, t11)))) (fun x14 s10 t11 => none)) else (some (.inr (t3.length + 47), s2, t3 ++ [px_exc 8])))))) (fun x6 s2 t3 => none)) else (some (.inr (t.length + 47), s, t ++ [px_exc 7])))
set_option maxRecDepth 100000 in
theorem e_E_read_1 (K : px_K) (N : Nat) (a0 : Int32) (a1 : Int32) (s : px_S) (t : px_W) (r : px_Res) (h : f_E_read_1 K N a0 a1 s t = some r) : px_E px_ET px_P 13 4 0 (px_ent 4 [.ref 1, .int a0, .int a1]) [] (px_w K s t) r.1 (px_w K r.2.1 r.2.2) := by
  have hM : px_P[4]? = some pm_E_read := rfl
  unfold f_E_read_1 at h
  refine px_blkif (c := ¬ (s.1 0) = 0) (t := 5) (e := 4) (L' := [some (.ref 1), some (.int a0), some (.int a1), none]) (S' := []) (w' := px_w K s t) (q := []) 4 hM rfl trivial (fun hc1 => ?_) (fun hc1 => ?_)
  · rw [if_pos hc1] at h
    refine px_blk (i' := 8) (L' := [some (.ref 1), some (.int a0), some (.int a1), none]) (S' := [.int a0, .ref 22]) (w' := px_w K s t) (q := []) 3 hM rfl trivial ?_
    rcases px_bi_some h with ⟨v5, s2, t3, hk4, h⟩ | ⟨x6, s2, t3, hk4, h⟩
    · refine px_E_call hM rfl rfl rfl rfl (px_E_mono (by decide) (e_T_isFile_22 K N a0 s t _ hk4)) ?_
      refine px_blkif (c := v5 = 0) (t := 15) (e := 10) (L' := [some (.ref 1), some (.int a0), some (.int a1), none]) (S' := []) (w' := px_w K s2 t3) (q := []) 1 hM rfl trivial (fun hc7 => ?_) (fun hc7 => ?_)
      · rw [if_pos hc7] at h
        cases h
        exact px_E_throw2 hM rfl rfl (by decide) (by decide) rfl rfl
      · rw [if_neg hc7] at h
        refine px_blkif (c := a1 < 0) (t := 15) (e := 12) (L' := [some (.ref 1), some (.int a0), some (.int a1), none]) (S' := []) (w' := px_w K s2 t3) (q := []) 2 hM rfl trivial (fun hc8 => ?_) (fun hc8 => ?_)
        · rw [if_pos hc8] at h
          cases h
          exact px_E_throw2 hM rfl rfl (by decide) (by decide) rfl rfl
        · rw [if_neg hc8] at h
          refine px_blkif (c := a1 < (320 : Int32)) (t := 16) (e := 15) (L' := [some (.ref 1), some (.int a0), some (.int a1), none]) (S' := []) (w' := px_w K s2 t3) (q := []) 3 hM rfl trivial (fun hc9 => ?_) (fun hc9 => ?_)
          · rw [if_pos hc9] at h
            refine px_blk (i' := 22) (L' := [some (.ref 1), some (.int a0), some (.int a1), none]) (S' := [.int (a1 / (16 : Int32)), .int a0, .ref 22]) (w' := px_w K s2 t3) (q := [¬ (16 : Int32) = 0]) 6 hM rfl (show ¬ (16 : Int32) = 0 from (by decide)) ?_
            rcases px_bi_some h with ⟨v13, s10, t11, hk12, h⟩ | ⟨x14, s10, t11, hk12, h⟩
            · refine px_E_call hM rfl rfl rfl rfl (px_E_mono (by decide) (e_T_blockOf_22 K N a0 (a1 / (16 : Int32)) s2 t3 _ hk12)) ?_
              refine px_blkif (c := ¬ v13 = 0) (t := 28) (e := 26) (L' := [some (.ref 1), some (.int a0), some (.int a1), some (.int v13)]) (S' := []) (w' := px_w K s10 t11) (q := []) 3 hM rfl trivial (fun hc15 => ?_) (fun hc15 => ?_)
              · rw [if_pos hc15] at h
                refine px_blk (i' := 30) (L' := [some (.ref 1), some (.int a0), some (.int a1), some (.int v13)]) (S' := [.int v13, .ref 1]) (w' := px_w K s10 t11) (q := []) 2 hM rfl trivial ?_
                rcases px_bi_some h with ⟨v19, s16, t17, hk18, h⟩ | ⟨x20, s16, t17, hk18, h⟩
                · refine px_E_call hM rfl rfl rfl rfl (px_E_mono (by decide) (e_E_isLoaded_1 K N v13 s10 t11 _ hk18)) ?_
                  refine px_blkif (c := ¬ v19 = 0) (t := 33) (e := 32) (L' := [some (.ref 1), some (.int a0), some (.int a1), some (.int v13)]) (S' := []) (w' := px_w K s16 t17) (q := []) 1 hM rfl trivial (fun hc21 => ?_) (fun hc21 => ?_)
                  · rw [if_pos hc21] at h
                    refine px_blk (i' := 38) (L' := [some (.ref 1), some (.int a0), some (.int a1), some (.int v13)]) (S' := [.int (1 : Int32), .int a0, .ref 22, .int a1]) (w' := px_w K s16 t17) (q := []) 5 hM rfl trivial ?_
                    rcases px_bi_some h with ⟨v25, s22, t23, hk24, h⟩ | ⟨x26, s22, t23, hk24, h⟩
                    · refine px_E_call hM rfl rfl rfl rfl (px_E_mono (by decide) (e_T_inodeWord_22 K N a0 (1 : Int32) s16 t17 _ hk24)) ?_
                      refine px_blkif (c := v25 ≤ a1) (t := 48) (e := 40) (L' := [some (.ref 1), some (.int a0), some (.int a1), some (.int v13)]) (S' := []) (w' := px_w K s22 t23) (q := []) 1 hM rfl trivial (fun hc27 => ?_) (fun hc27 => ?_)
                      · rw [if_pos hc27] at h
                        refine px_blk (i' := 49) (L' := [some (.ref 1), some (.int a0), some (.int a1), some (.int v13)]) (S' := [.int (0 : Int32)]) (w' := px_w K s22 t23) (q := []) 1 hM rfl trivial ?_
                        cases h
                        exact px_E_ret hM rfl rfl rfl trivial
                      · rw [if_neg hc27] at h
                        refine px_blk (i' := 46) (L' := [some (.ref 1), some (.int a0), some (.int a1), some (.int v13)]) (S' := [.int (a1 - a1 / (16 : Int32) * (16 : Int32)), .int v13, .ref 22]) (w' := px_w K s22 t23) (q := [¬ (16 : Int32) = 0]) 6 hM rfl (show ¬ (16 : Int32) = 0 from (by decide)) ?_
                        rcases px_bi_some h with ⟨v31, s28, t29, hk30, h⟩ | ⟨x32, s28, t29, hk30, h⟩
                        · refine px_E_call hM rfl rfl rfl rfl (px_E_mono (by decide) (e_T_at_22 K N v13 (a1 - a1 / (16 : Int32) * (16 : Int32)) s22 t23 _ hk30)) ?_
                          refine px_blk (i' := 49) (L' := [some (.ref 1), some (.int a0), some (.int a1), some (.int v13)]) (S' := [.int v31]) (w' := px_w K s28 t29) (q := []) 1 hM rfl trivial ?_
                          cases h
                          exact px_E_ret hM rfl rfl rfl trivial
                        · cases h
                    · cases h
                  · rw [if_neg hc21] at h
                    cases h
                    exact px_E_throw2 hM rfl rfl (by decide) (by decide) rfl rfl
                · cases h
              · rw [if_neg hc15] at h
                refine px_blk (i' := 27) (L' := [some (.ref 1), some (.int a0), some (.int a1), some (.int v13)]) (S' := [.int (0 : Int32)]) (w' := px_w K s10 t11) (q := []) 1 hM rfl trivial ?_
                cases h
                exact px_E_ret hM rfl rfl rfl trivial
            · cases h
          · rw [if_neg hc9] at h
            cases h
            exact px_E_throw2 hM rfl rfl (by decide) (by decide) rfl rfl
    · cases h
  · rw [if_neg hc1] at h
    cases h
    exact px_E_throw2 hM rfl rfl (by decide) (by decide) rfl rfl
noncomputable def f_T_giveBack_22 (K : px_K) (N : Nat) (a0 : Int32) (s : px_S) (t : px_W) : Option px_Res :=
  (px_let (a0 - (42 : Int32)) (fun v1 => (if v1 < 0 then (some (.inl none, s, t)) else (if (64 : Int32) ≤ v1 then (some (.inl none, s, t)) else (px_bi (f_T_at_22 K N (29 : Int32) (v1 / (32 : Int32)) s t) (fun v8 s5 t6 => (px_bv (f_T_tell_22 K N (29 : Int32) (v1 / (32 : Int32)) (v8 &&& (((1 : Int32) <<< ((v1 - v1 / (32 : Int32) * (32 : Int32)) &&& 31)) ^^^ (-1 : Int32))) s5 t6) (fun s10 t11 => (some (.inl none, s10, t11))) (fun x14 s10 t11 => none))) (fun x9 s5 t6 => none))))))
set_option maxRecDepth 100000 in
theorem e_T_giveBack_22 (K : px_K) (N : Nat) (a0 : Int32) (s : px_S) (t : px_W) (r : px_Res) (h : f_T_giveBack_22 K N a0 s t = some r) : px_E px_ET px_P 3 149 0 (px_ent 3 [.ref 22, .int a0]) [] (px_w K s t) r.1 (px_w K r.2.1 r.2.2) := by
  have hM : px_P[149]? = some pm_T_giveBack := rfl
  unfold f_T_giveBack_22 at h
  refine px_blk (i' := 4) (L' := [some (.ref 22), some (.int a0), some (.int (a0 - (42 : Int32)))]) (S' := []) (w' := px_w K s t) (q := []) 4 hM rfl trivial ?_
  obtain ⟨v1, hv2, h⟩ := px_let_some h
  rw [← hv2]
  refine px_blkif (c := v1 < 0) (t := 29) (e := 6) (L' := [some (.ref 22), some (.int a0), some (.int v1)]) (S' := []) (w' := px_w K s t) (q := []) 2 hM rfl trivial (fun hc3 => ?_) (fun hc3 => ?_)
  · rw [if_pos hc3] at h
    cases h
    exact px_E_ret hM rfl rfl rfl trivial
  · rw [if_neg hc3] at h
    refine px_blkif (c := (64 : Int32) ≤ v1) (t := 29) (e := 9) (L' := [some (.ref 22), some (.int a0), some (.int v1)]) (S' := []) (w' := px_w K s t) (q := []) 3 hM rfl trivial (fun hc4 => ?_) (fun hc4 => ?_)
    · rw [if_pos hc4] at h
      cases h
      exact px_E_ret hM rfl rfl rfl trivial
    · rw [if_neg hc4] at h
      refine px_blk (i' := 19) (L' := [some (.ref 22), some (.int a0), some (.int v1)]) (S' := [.int (v1 / (32 : Int32)), .int (29 : Int32), .ref 22, .int (v1 / (32 : Int32)), .int (29 : Int32), .ref 22]) (w' := px_w K s t) (q := [¬ (32 : Int32) = 0, ¬ (32 : Int32) = 0]) 10 hM rfl (show (¬ (32 : Int32) = 0) ∧ (¬ (32 : Int32) = 0) from ⟨(by decide), (by decide)⟩) ?_
      rcases px_bi_some h with ⟨v8, s5, t6, hk7, h⟩ | ⟨x9, s5, t6, hk7, h⟩
      · refine px_E_call hM rfl rfl rfl rfl (px_E_mono (by decide) (e_T_at_22 K N (29 : Int32) (v1 / (32 : Int32)) s t _ hk7)) ?_
        refine px_blk (i' := 28) (L' := [some (.ref 22), some (.int a0), some (.int v1)]) (S' := [.int (v8 &&& (((1 : Int32) <<< ((v1 - v1 / (32 : Int32) * (32 : Int32)) &&& 31)) ^^^ (-1 : Int32))), .int (v1 / (32 : Int32)), .int (29 : Int32), .ref 22]) (w' := px_w K s5 t6) (q := [¬ (32 : Int32) = 0]) 8 hM rfl (show ¬ (32 : Int32) = 0 from (by decide)) ?_
        rcases px_bv_some h with ⟨s10, t11, hk12, h⟩ | ⟨x14, s10, t11, hk12, h⟩
        · refine px_E_call hM rfl rfl rfl rfl (px_E_mono (by decide) (e_T_tell_22 K N (29 : Int32) (v1 / (32 : Int32)) (v8 &&& (((1 : Int32) <<< ((v1 - v1 / (32 : Int32) * (32 : Int32)) &&& 31)) ^^^ (-1 : Int32))) s5 t6 _ hk12)) ?_
          cases h
          exact px_E_ret hM rfl rfl rfl trivial
        · cases h
      · cases h
noncomputable def l_T_giveBackEmptyIndirect_22_9 (K : px_K) (N : Nat) (n : Nat) (u1 : Int32) (u2 : Int32) (m3 : Int32) (s : px_S) (t : px_W) : Option px_LO := match n with
  | 0 => none
  | n + 1 => (if (20 : Int32) ≤ m3 then (some (.inl (20, [], s, t))) else (px_bi (f_T_blockOf_22 K N u1 m3 s t) (fun v5 s2 t3 => (if v5 = 0 then (l_T_giveBackEmptyIndirect_22_9 K N n u1 u2 (m3 + (1 : Int32)) s2 t3) else (some (.inl (17, [], s2, t3))))) (fun x6 s2 t3 => none)))
def a_l_T_giveBackEmptyIndirect_22_9 (K : px_K) (u1 : Int32) (u2 : Int32) (z : px_LO) (o : Option Value ⊕ Nat) (w2 : px_W) : Prop := match z with
  | .inr (o', s', t') => o = o' ∧ w2 = px_w K s' t'
  | .inl (17, [], s', t') => px_E px_ET px_P 4 167 17 [none, none, none, none] [] (px_w K s' t') o w2
  | .inl (20, [], s', t') => px_E px_ET px_P 4 167 20 [some (.ref 22), some (.int u1), some (.int u2), none] [] (px_w K s' t') o w2
  | _ => False
set_option maxRecDepth 100000 in
theorem e_l_T_giveBackEmptyIndirect_22_9 (K : px_K) (N : Nat) (u1 : Int32) (u2 : Int32) : ∀ (n : Nat) (m3 : Int32) (s : px_S) (t : px_W) (z : px_LO), l_T_giveBackEmptyIndirect_22_9 K N n u1 u2 m3 s t = some z → ∀ (o : Option Value ⊕ Nat) (w2 : px_W), a_l_T_giveBackEmptyIndirect_22_9 K u1 u2 z o w2 → px_E px_ET px_P 4 167 9 [some (.ref 22), some (.int u1), some (.int u2), some (.int m3)] [] (px_w K s t) o w2 := by
  have hM : px_P[167]? = some pm_T_giveBackEmptyIndirect := rfl
  intro n
  induction n with
  | zero => intro m3 s t z h; cases h
  | succ n ih =>
    intro m3 s t z h o w2 ha
    unfold l_T_giveBackEmptyIndirect_22_9 at h
    refine px_blkif (c := (20 : Int32) ≤ m3) (t := 20) (e := 12) (L' := [some (.ref 22), some (.int u1), some (.int u2), some (.int m3)]) (S' := []) (w' := px_w K s t) (q := []) 3 hM rfl trivial (fun hc1 => ?_) (fun hc1 => ?_)
    · rw [if_pos hc1] at h
      cases h
      exact px_E_le (px_leC_L _ _ (by simp [px_leC, px_le1, Value.category])) ha
    · rw [if_neg hc1] at h
      refine px_blk (i' := 15) (L' := [some (.ref 22), some (.int u1), some (.int u2), some (.int m3)]) (S' := [.int m3, .int u1, .ref 22]) (w' := px_w K s t) (q := []) 3 hM rfl trivial ?_
      rcases px_bi_some h with ⟨v5, s2, t3, hk4, h⟩ | ⟨x6, s2, t3, hk4, h⟩
      · refine px_E_call hM rfl rfl rfl rfl (px_E_mono (by decide) (e_T_blockOf_22 K N u1 m3 s t _ hk4)) ?_
        refine px_blkif (c := v5 = 0) (t := 18) (e := 17) (L' := [some (.ref 22), some (.int u1), some (.int u2), some (.int m3)]) (S' := []) (w' := px_w K s2 t3) (q := []) 1 hM rfl trivial (fun hc7 => ?_) (fun hc7 => ?_)
        · rw [if_pos hc7] at h
          refine px_blk (i' := 9) (L' := [some (.ref 22), some (.int u1), some (.int u2), some (.int (m3 + (1 : Int32)))]) (S' := []) (w' := px_w K s2 t3) (q := []) 2 hM rfl trivial ?_
          exact ih (m3 + (1 : Int32)) s2 t3 z h o w2 ha
        · rw [if_neg hc7] at h
          cases h
          exact px_E_le (px_leC_L _ _ (by simp [px_leC, px_le1, Value.category])) ha
      · cases h
noncomputable def f_T_giveBackEmptyIndirect_22 (K : px_K) (N : Nat) (a0 : Int32) (s : px_S) (t : px_W) : Option px_Res :=
  (px_bi (f_T_indirectOf_22 K N a0 s t) (fun v4 s1 t2 => (if ¬ v4 = 0 then (px_lp (l_T_giveBackEmptyIndirect_22_9 K N N a0 v4 (4 : Int32) s1 t2) (fun i7 vs8 s9 t10 => (if i7 = 17 then (px_v0 vs8 (some (.inl none, s9, t10))) else (if i7 = 20 then (px_v0 vs8 (px_bv (f_T_tellInode_22 K N a0 (6 : Int32) (0 : Int32) s9 t10) (fun s15 t16 => (px_bv (f_T_giveBack_22 K N v4 s15 t16) (fun s20 t21 => (some (.inl none, s20, t21))) (fun x24 s20 t21 => none))) (fun x19 s15 t16 => none))) else none))) (fun z12 => some z12)) else (some (.inl none, s1, t2)))) (fun x5 s1 t2 => none))
set_option maxRecDepth 100000 in
theorem e_T_giveBackEmptyIndirect_22 (K : px_K) (N : Nat) (a0 : Int32) (s : px_S) (t : px_W) (r : px_Res) (h : f_T_giveBackEmptyIndirect_22 K N a0 s t = some r) : px_E px_ET px_P 4 167 0 (px_ent 4 [.ref 22, .int a0]) [] (px_w K s t) r.1 (px_w K r.2.1 r.2.2) := by
  have hM : px_P[167]? = some pm_T_giveBackEmptyIndirect := rfl
  unfold f_T_giveBackEmptyIndirect_22 at h
  refine px_blk (i' := 2) (L' := [some (.ref 22), some (.int a0), none, none]) (S' := [.int a0, .ref 22]) (w' := px_w K s t) (q := []) 2 hM rfl trivial ?_
  rcases px_bi_some h with ⟨v4, s1, t2, hk3, h⟩ | ⟨x5, s1, t2, hk3, h⟩
  · refine px_E_call hM rfl rfl rfl rfl (px_E_mono (by decide) (e_T_indirectOf_22 K N a0 s t _ hk3)) ?_
    refine px_blkif (c := ¬ v4 = 0) (t := 7) (e := 6) (L' := [some (.ref 22), some (.int a0), some (.int v4), none]) (S' := []) (w' := px_w K s1 t2) (q := []) 3 hM rfl trivial (fun hc6 => ?_) (fun hc6 => ?_)
    · rw [if_pos hc6] at h
      refine px_blk (i' := 9) (L' := [some (.ref 22), some (.int a0), some (.int v4), some (.int (4 : Int32))]) (S' := []) (w' := px_w K s1 t2) (q := []) 2 hM rfl trivial ?_
      rcases px_lp_some h with ⟨i7, vs8, s9, t10, hl11, h⟩ | ⟨z12, hl11, h⟩
      · by_cases hi13 : i7 = 17
        · subst hi13
          rw [if_pos rfl] at h
          have h9 := px_v0_some h
          clear h
          obtain ⟨rfl, h⟩ := h9
          refine e_l_T_giveBackEmptyIndirect_22_9 K N a0 v4 N (4 : Int32) s1 t2 _ hl11 _ _ ?_
          show px_E px_ET px_P 4 167 17 [none, none, none, none] [] (px_w K s9 t10) _ _
          cases h
          exact px_E_ret hM rfl rfl rfl trivial
        · rw [if_neg hi13] at h
          by_cases hi14 : i7 = 20
          · subst hi14
            rw [if_pos rfl] at h
            have h9 := px_v0_some h
            clear h
            obtain ⟨rfl, h⟩ := h9
            refine e_l_T_giveBackEmptyIndirect_22_9 K N a0 v4 N (4 : Int32) s1 t2 _ hl11 _ _ ?_
            show px_E px_ET px_P 4 167 20 [some (.ref 22), some (.int a0), some (.int v4), none] [] (px_w K s9 t10) _ _
            refine px_blk (i' := 24) (L' := [some (.ref 22), some (.int a0), some (.int v4), none]) (S' := [.int (0 : Int32), .int (6 : Int32), .int a0, .ref 22]) (w' := px_w K s9 t10) (q := []) 4 hM rfl trivial ?_
            rcases px_bv_some h with ⟨s15, t16, hk17, h⟩ | ⟨x19, s15, t16, hk17, h⟩
            · refine px_E_call hM rfl rfl rfl rfl (px_E_mono (by decide) (e_T_tellInode_22 K N a0 (6 : Int32) (0 : Int32) s9 t10 _ hk17)) ?_
              refine px_blk (i' := 27) (L' := [some (.ref 22), some (.int a0), some (.int v4), none]) (S' := [.int v4, .ref 22]) (w' := px_w K s15 t16) (q := []) 2 hM rfl trivial ?_
              rcases px_bv_some h with ⟨s20, t21, hk22, h⟩ | ⟨x24, s20, t21, hk22, h⟩
              · refine px_E_call hM rfl rfl rfl rfl (px_E_mono (by decide) (e_T_giveBack_22 K N v4 s15 t16 _ hk22)) ?_
                cases h
                exact px_E_ret hM rfl rfl rfl trivial
              · cases h
            · cases h
          · rw [if_neg hi14] at h
            cases h
      · cases h
        exact e_l_T_giveBackEmptyIndirect_22_9 K N a0 v4 N (4 : Int32) s1 t2 _ hl11 _ _ ⟨rfl, rfl⟩
    · rw [if_neg hc6] at h
      cases h
      exact px_E_ret hM rfl rfl rfl trivial
  · cases h
noncomputable def l_T_shorten_22_62 (K : px_K) (N : Nat) (n : Nat) (u1 : Int32) (u2 : Int32) (m4 : Int32) (s : px_S) (t : px_W) : Option px_LO := match n with
  | 0 => none
  | n + 1 => (if (20 : Int32) ≤ m4 then (some (.inl (82, [], s, t))) else (px_bi (f_T_blockOf_22 K N u1 m4 s t) (fun v5 s2 t3 => (if v5 = 0 then (l_T_shorten_22_62 K N n u1 u2 (m4 + (1 : Int32)) s2 t3) else (px_bv (f_T_tellBlockOf_22 K N u1 m4 (0 : Int32) s2 t3) (fun s8 t9 => (px_bv (f_T_giveBack_22 K N v5 s8 t9) (fun s13 t14 => (l_T_shorten_22_62 K N n u1 u2 (m4 + (1 : Int32)) s13 t14)) (fun x17 s13 t14 => none))) (fun x12 s8 t9 => none)))) (fun x6 s2 t3 => none)))
def a_l_T_shorten_22_62 (K : px_K) (u1 : Int32) (u2 : Int32) (z : px_LO) (o : Option Value ⊕ Nat) (w2 : px_W) : Prop := match z with
  | .inr (o', s', t') => o = o' ∧ w2 = px_w K s' t'
  | .inl (82, [], s', t') => px_E px_ET px_P 12 166 82 [some (.ref 22), some (.int u1), some (.int u2), none, none, none] [] (px_w K s' t') o w2
  | _ => False
noncomputable def l_T_shorten_22_44 (K : px_K) (N : Nat) (n : Nat) (u1 : Int32) (u2 : Int32) (u3 : Int32) (m4 : Int32) (s : px_S) (t : px_W) : Option px_LO := match n with
  | 0 => none
  | n + 1 => (if (16 : Int32) ≤ m4 then (some (.inl (54, [], s, t))) else (px_bv (f_T_tell_22 K N u3 m4 (0 : Int32) s t) (fun s2 t3 => (l_T_shorten_22_44 K N n u1 u2 u3 (m4 + (1 : Int32)) s2 t3)) (fun x6 s2 t3 => none)))
def a_l_T_shorten_22_44 (K : px_K) (u1 : Int32) (u2 : Int32) (u3 : Int32) (z : px_LO) (o : Option Value ⊕ Nat) (w2 : px_W) : Prop := match z with
  | .inr (o', s', t') => o = o' ∧ w2 = px_w K s' t'
  | .inl (54, [], s', t') => px_E px_ET px_P 12 166 54 [some (.ref 22), some (.int u1), some (.int u2), none, none, none] [] (px_w K s' t') o w2
  | _ => False
set_option maxRecDepth 100000 in
theorem e_l_T_shorten_22_62 (K : px_K) (N : Nat) (u1 : Int32) (u2 : Int32) : ∀ (n : Nat) (m4 : Int32) (s : px_S) (t : px_W) (z : px_LO), l_T_shorten_22_62 K N n u1 u2 m4 s t = some z → ∀ (o : Option Value ⊕ Nat) (w2 : px_W), a_l_T_shorten_22_62 K u1 u2 z o w2 → px_E px_ET px_P 12 166 62 [some (.ref 22), some (.int u1), some (.int u2), none, some (.int m4), none] [] (px_w K s t) o w2 := by
  have hM : px_P[166]? = some pm_T_shorten := rfl
  intro n
  induction n with
  | zero => intro m4 s t z h; cases h
  | succ n ih =>
    intro m4 s t z h o w2 ha
    unfold l_T_shorten_22_62 at h
    refine px_blkif (c := (20 : Int32) ≤ m4) (t := 82) (e := 65) (L' := [some (.ref 22), some (.int u1), some (.int u2), none, some (.int m4), none]) (S' := []) (w' := px_w K s t) (q := []) 3 hM rfl trivial (fun hc1 => ?_) (fun hc1 => ?_)
    · rw [if_pos hc1] at h
      cases h
      exact px_E_le (px_leC_L _ _ (by simp [px_leC, px_le1, Value.category])) ha
    · rw [if_neg hc1] at h
      refine px_blk (i' := 68) (L' := [some (.ref 22), some (.int u1), some (.int u2), none, some (.int m4), none]) (S' := [.int m4, .int u1, .ref 22]) (w' := px_w K s t) (q := []) 3 hM rfl trivial ?_
      rcases px_bi_some h with ⟨v5, s2, t3, hk4, h⟩ | ⟨x6, s2, t3, hk4, h⟩
      · refine px_E_call hM rfl rfl rfl rfl (px_E_mono (by decide) (e_T_blockOf_22 K N u1 m4 s t _ hk4)) ?_
        refine px_blkif (c := v5 = 0) (t := 80) (e := 72) (L' := [some (.ref 22), some (.int u1), some (.int u2), none, some (.int m4), some (.int v5)]) (S' := []) (w' := px_w K s2 t3) (q := []) 3 hM rfl trivial (fun hc7 => ?_) (fun hc7 => ?_)
        · rw [if_pos hc7] at h
          refine px_blk (i' := 62) (L' := [some (.ref 22), some (.int u1), some (.int u2), none, some (.int (m4 + (1 : Int32))), some (.int v5)]) (S' := []) (w' := px_w K s2 t3) (q := []) 2 hM rfl trivial ?_
          exact px_E_le (px_leC_L _ _ (by simp [px_leC, px_le1, Value.category])) (ih (m4 + (1 : Int32)) s2 t3 z h o w2 ha)
        · rw [if_neg hc7] at h
          refine px_blk (i' := 76) (L' := [some (.ref 22), some (.int u1), some (.int u2), none, some (.int m4), some (.int v5)]) (S' := [.int (0 : Int32), .int m4, .int u1, .ref 22]) (w' := px_w K s2 t3) (q := []) 4 hM rfl trivial ?_
          rcases px_bv_some h with ⟨s8, t9, hk10, h⟩ | ⟨x12, s8, t9, hk10, h⟩
          · refine px_E_call hM rfl rfl rfl rfl (px_E_mono (by decide) (e_T_tellBlockOf_22 K N u1 m4 (0 : Int32) s2 t3 _ hk10)) ?_
            refine px_blk (i' := 79) (L' := [some (.ref 22), some (.int u1), some (.int u2), none, some (.int m4), some (.int v5)]) (S' := [.int v5, .ref 22]) (w' := px_w K s8 t9) (q := []) 2 hM rfl trivial ?_
            rcases px_bv_some h with ⟨s13, t14, hk15, h⟩ | ⟨x17, s13, t14, hk15, h⟩
            · refine px_E_call hM rfl rfl rfl rfl (px_E_mono (by decide) (e_T_giveBack_22 K N v5 s8 t9 _ hk15)) ?_
              refine px_blk (i' := 62) (L' := [some (.ref 22), some (.int u1), some (.int u2), none, some (.int (m4 + (1 : Int32))), some (.int v5)]) (S' := []) (w' := px_w K s13 t14) (q := []) 2 hM rfl trivial ?_
              exact px_E_le (px_leC_L _ _ (by simp [px_leC, px_le1, Value.category])) (ih (m4 + (1 : Int32)) s13 t14 z h o w2 ha)
            · cases h
          · cases h
      · cases h
set_option maxRecDepth 100000 in
theorem e_l_T_shorten_22_44 (K : px_K) (N : Nat) (u1 : Int32) (u2 : Int32) (u3 : Int32) : ∀ (n : Nat) (m4 : Int32) (s : px_S) (t : px_W) (z : px_LO), l_T_shorten_22_44 K N n u1 u2 u3 m4 s t = some z → ∀ (o : Option Value ⊕ Nat) (w2 : px_W), a_l_T_shorten_22_44 K u1 u2 u3 z o w2 → px_E px_ET px_P 12 166 44 [some (.ref 22), some (.int u1), some (.int u2), some (.int u3), some (.int m4), none] [] (px_w K s t) o w2 := by
  have hM : px_P[166]? = some pm_T_shorten := rfl
  intro n
  induction n with
  | zero => intro m4 s t z h; cases h
  | succ n ih =>
    intro m4 s t z h o w2 ha
    unfold l_T_shorten_22_44 at h
    refine px_blkif (c := (16 : Int32) ≤ m4) (t := 54) (e := 47) (L' := [some (.ref 22), some (.int u1), some (.int u2), some (.int u3), some (.int m4), none]) (S' := []) (w' := px_w K s t) (q := []) 3 hM rfl trivial (fun hc1 => ?_) (fun hc1 => ?_)
    · rw [if_pos hc1] at h
      cases h
      exact px_E_le (px_leC_L _ _ (by simp [px_leC, px_le1, Value.category])) ha
    · rw [if_neg hc1] at h
      refine px_blk (i' := 51) (L' := [some (.ref 22), some (.int u1), some (.int u2), some (.int u3), some (.int m4), none]) (S' := [.int (0 : Int32), .int m4, .int u3, .ref 22]) (w' := px_w K s t) (q := []) 4 hM rfl trivial ?_
      rcases px_bv_some h with ⟨s2, t3, hk4, h⟩ | ⟨x6, s2, t3, hk4, h⟩
      · refine px_E_call hM rfl rfl rfl rfl (px_E_mono (by decide) (e_T_tell_22 K N u3 m4 (0 : Int32) s t _ hk4)) ?_
        refine px_blk (i' := 44) (L' := [some (.ref 22), some (.int u1), some (.int u2), some (.int u3), some (.int (m4 + (1 : Int32))), none]) (S' := []) (w' := px_w K s2 t3) (q := []) 2 hM rfl trivial ?_
        exact ih (m4 + (1 : Int32)) s2 t3 z h o w2 ha
      · cases h
noncomputable def f_T_shorten_22 (K : px_K) (N : Nat) (a0 : Int32) (a1 : Int32) (s : px_S) (t : px_W) : Option px_Res :=
  (px_bi (f_T_isFile_22 K N a0 s t) (fun v4 s1 t2 => (if v4 = 0 then (some (.inl (some (.int (-4 : Int32))), s1, t2)) else (if a1 < 0 then (some (.inl (some (.int (-4 : Int32))), s1, t2)) else (px_bi (f_T_inodeWord_22 K N a0 (1 : Int32) s1 t2) (fun v11 s8 t9 => (if a1 ≤ v11 then (px_bi (f_T_inodeWord_22 K N a0 (1 : Int32) s8 t9) (fun v17 s14 t15 => (if ¬ a1 = v17 then (if ¬ (a1 - a1 / (16 : Int32) * (16 : Int32)) = 0 then (px_bi (f_T_blockOf_22 K N a0 (a1 / (16 : Int32)) s14 t15) (fun v24 s21 t22 => (if v24 = 0 then (px_let (((a1 + (16 : Int32)) - (1 : Int32)) / (16 : Int32)) (fun v27 => (px_lp (l_T_shorten_22_62 K N N a0 a1 v27 s21 t22) (fun i29 vs30 s31 t32 => (if i29 = 82 then (px_v0 vs30 (px_bv (f_T_giveBackEmptyIndirect_22 K N a0 s31 t32) (fun s36 t37 => (px_bv (f_T_tellInode_22 K N a0 (1 : Int32) a1 s36 t37) (fun s41 t42 => (some (.inl (some (.int (0 : Int32))), s41, t42))) (fun x45 s41 t42 => none))) (fun x40 s36 t37 => none))) else none)) (fun z34 => some z34)))) else (px_bv (f_T_loadFileBlock_22 K N v24 s21 t22) (fun s46 t47 => (px_let (a1 - a1 / (16 : Int32) * (16 : Int32)) (fun v51 => (px_lp (l_T_shorten_22_44 K N N a0 a1 v24 v51 s46 t47) (fun i53 vs54 s55 t56 => (if i53 = 54 then (px_v0 vs54 (px_let (((a1 + (16 : Int32)) - (1 : Int32)) / (16 : Int32)) (fun v60 => (px_lp (l_T_shorten_22_62 K N N a0 a1 v60 s55 t56) (fun i62 vs63 s64 t65 => (if i62 = 82 then (px_v0 vs63 (px_bv (f_T_giveBackEmptyIndirect_22 K N a0 s64 t65) (fun s69 t70 => (px_bv (f_T_tellInode_22 K N a0 (1 : Int32) a1 s69 t70) (fun s74 t75 => (some (.inl (some (.int (0 : Int32))), s74, t75))) (fun x78 s74 t75 => none))) (fun x73 s69 t70 => none))) else none)) (fun z67 => some z67))))) else none)) (fun z58 => some z58))))) (fun x50 s46 t47 => (some (.inr x50, s46, t47)))))) (fun x25 s21 t22 => none)) else (if (0 : Int32) = 0 then (px_let (((a1 + (16 : Int32)) - (1 : Int32)) / (16 : Int32)) (fun v80 => (px_lp (l_T_shorten_22_62 K N N a0 a1 v80 s14 t15) (fun i82 vs83 s84 t85 => (if i82 = 82 then (px_v0 vs83 (px_bv (f_T_giveBackEmptyIndirect_22 K N a0 s84 t85) (fun s89 t90 => (px_bv (f_T_tellInode_22 K N a0 (1 : Int32) a1 s89 t90) (fun s94 t95 => (some (.inl (some (.int (0 : Int32))), s94, t95))) (fun x98 s94 t95 => none))) (fun x93 s89 t90 => none))) else none)) (fun z87 => some z87)))) else (px_bv (f_T_loadFileBlock_22 K N (0 : Int32) s14 t15) (fun s99 t100 => (px_let (a1 - a1 / (16 : Int32) * (16 : Int32)) (fun v104 => (px_lp (l_T_shorten_22_44 K N N a0 a1 (0 : Int32) v104 s99 t100) (fun i106 vs107 s108 t109 => (if i106 = 54 then (px_v0 vs107 (px_let (((a1 + (16 : Int32)) - (1 : Int32)) / (16 : Int32)) (fun v113 => (px_lp (l_T_shorten_22_62 K N N a0 a1 v113 s108 t109) (fun i115 vs116 s117 t118 => (if i115 = 82 then (px_v0 vs116 (px_bv (f_T_giveBackEmptyIndirect_22 K N a0 s117 t118) (fun s122 t123 => (px_bv (f_T_tellInode_22 K N a0 (1 : Int32) a1 s122 t123) (fun s127 t128 => (some (.inl (some (.int (0 : Int32))), s127, t128))) (fun x131 s127 t128 => none))) (fun x126 s122 t123 => none))) else none)) (fun z120 => some z120))))) else none)) (fun z111 => some z111))))) (fun x103 s99 t100 => (some (.inr x103, s99, t100)))))) else (some (.inl (some (.int (0 : Int32))), s14, t15)))) (fun x18 s14 t15 => none)) else (some (.inl (some (.int (-4 : Int32))), s8, t9)))) (fun x12 s8 t9 => none))))) (fun x5 s1 t2 => none))
set_option maxRecDepth 100000 in
theorem e_T_shorten_22 (K : px_K) (N : Nat) (a0 : Int32) (a1 : Int32) (s : px_S) (t : px_W) (r : px_Res) (h : f_T_shorten_22 K N a0 a1 s t = some r) : px_E px_ET px_P 12 166 0 (px_ent 6 [.ref 22, .int a0, .int a1]) [] (px_w K s t) r.1 (px_w K r.2.1 r.2.2) := by
  have hM : px_P[166]? = some pm_T_shorten := rfl
  unfold f_T_shorten_22 at h
  refine px_blk (i' := 2) (L' := [some (.ref 22), some (.int a0), some (.int a1), none, none, none]) (S' := [.int a0, .ref 22]) (w' := px_w K s t) (q := []) 2 hM rfl trivial ?_
  rcases px_bi_some h with ⟨v4, s1, t2, hk3, h⟩ | ⟨x5, s1, t2, hk3, h⟩
  · refine px_E_call hM rfl rfl rfl rfl (px_E_mono (by decide) (e_T_isFile_22 K N a0 s t _ hk3)) ?_
    refine px_blkif (c := v4 = 0) (t := 12) (e := 4) (L' := [some (.ref 22), some (.int a0), some (.int a1), none, none, none]) (S' := []) (w' := px_w K s1 t2) (q := []) 1 hM rfl trivial (fun hc6 => ?_) (fun hc6 => ?_)
    · rw [if_pos hc6] at h
      refine px_blk (i' := 13) (L' := [some (.ref 22), some (.int a0), some (.int a1), none, none, none]) (S' := [.int (-4 : Int32)]) (w' := px_w K s1 t2) (q := []) 1 hM rfl trivial ?_
      cases h
      exact px_E_ret hM rfl rfl rfl trivial
    · rw [if_neg hc6] at h
      refine px_blkif (c := a1 < 0) (t := 12) (e := 6) (L' := [some (.ref 22), some (.int a0), some (.int a1), none, none, none]) (S' := []) (w' := px_w K s1 t2) (q := []) 2 hM rfl trivial (fun hc7 => ?_) (fun hc7 => ?_)
      · rw [if_pos hc7] at h
        refine px_blk (i' := 13) (L' := [some (.ref 22), some (.int a0), some (.int a1), none, none, none]) (S' := [.int (-4 : Int32)]) (w' := px_w K s1 t2) (q := []) 1 hM rfl trivial ?_
        cases h
        exact px_E_ret hM rfl rfl rfl trivial
      · rw [if_neg hc7] at h
        refine px_blk (i' := 10) (L' := [some (.ref 22), some (.int a0), some (.int a1), none, none, none]) (S' := [.int (1 : Int32), .int a0, .ref 22, .int a1]) (w' := px_w K s1 t2) (q := []) 4 hM rfl trivial ?_
        rcases px_bi_some h with ⟨v11, s8, t9, hk10, h⟩ | ⟨x12, s8, t9, hk10, h⟩
        · refine px_E_call hM rfl rfl rfl rfl (px_E_mono (by decide) (e_T_inodeWord_22 K N a0 (1 : Int32) s1 t2 _ hk10)) ?_
          refine px_blkif (c := a1 ≤ v11) (t := 14) (e := 12) (L' := [some (.ref 22), some (.int a0), some (.int a1), none, none, none]) (S' := []) (w' := px_w K s8 t9) (q := []) 1 hM rfl trivial (fun hc13 => ?_) (fun hc13 => ?_)
          · rw [if_pos hc13] at h
            refine px_blk (i' := 18) (L' := [some (.ref 22), some (.int a0), some (.int a1), none, none, none]) (S' := [.int (1 : Int32), .int a0, .ref 22, .int a1]) (w' := px_w K s8 t9) (q := []) 4 hM rfl trivial ?_
            rcases px_bi_some h with ⟨v17, s14, t15, hk16, h⟩ | ⟨x18, s14, t15, hk16, h⟩
            · refine px_E_call hM rfl rfl rfl rfl (px_E_mono (by decide) (e_T_inodeWord_22 K N a0 (1 : Int32) s8 t9 _ hk16)) ?_
              refine px_blkif (c := ¬ a1 = v17) (t := 22) (e := 20) (L' := [some (.ref 22), some (.int a0), some (.int a1), none, none, none]) (S' := []) (w' := px_w K s14 t15) (q := []) 1 hM rfl trivial (fun hc19 => ?_) (fun hc19 => ?_)
              · rw [if_pos hc19] at h
                refine px_blkif (c := ¬ (a1 - a1 / (16 : Int32) * (16 : Int32)) = 0) (t := 28) (e := 26) (L' := [some (.ref 22), some (.int a0), some (.int a1), none, none, none]) (S' := []) (w' := px_w K s14 t15) (q := [¬ (16 : Int32) = 0]) 4 hM rfl (show ¬ (16 : Int32) = 0 from (by decide)) (fun hc20 => ?_) (fun hc20 => ?_)
                · rw [if_pos hc20] at h
                  refine px_blk (i' := 33) (L' := [some (.ref 22), some (.int a0), some (.int a1), none, none, none]) (S' := [.int (a1 / (16 : Int32)), .int a0, .ref 22]) (w' := px_w K s14 t15) (q := [¬ (16 : Int32) = 0]) 5 hM rfl (show ¬ (16 : Int32) = 0 from (by decide)) ?_
                  rcases px_bi_some h with ⟨v24, s21, t22, hk23, h⟩ | ⟨x25, s21, t22, hk23, h⟩
                  · refine px_E_call hM rfl rfl rfl rfl (px_E_mono (by decide) (e_T_blockOf_22 K N a0 (a1 / (16 : Int32)) s14 t15 _ hk23)) ?_
                    refine px_blkif (c := v24 = 0) (t := 54) (e := 37) (L' := [some (.ref 22), some (.int a0), some (.int a1), some (.int v24), none, none]) (S' := []) (w' := px_w K s21 t22) (q := []) 3 hM rfl trivial (fun hc26 => ?_) (fun hc26 => ?_)
                    · rw [if_pos hc26] at h
                      refine px_blk (i' := 62) (L' := [some (.ref 22), some (.int a0), some (.int a1), some (.int v24), some (.int (((a1 + (16 : Int32)) - (1 : Int32)) / (16 : Int32))), none]) (S' := []) (w' := px_w K s21 t22) (q := [¬ (16 : Int32) = 0]) 8 hM rfl (show ¬ (16 : Int32) = 0 from (by decide)) ?_
                      obtain ⟨v27, hv28, h⟩ := px_let_some h
                      rw [← hv28]
                      rcases px_lp_some h with ⟨i29, vs30, s31, t32, hl33, h⟩ | ⟨z34, hl33, h⟩
                      · by_cases hi35 : i29 = 82
                        · subst hi35
                          rw [if_pos rfl] at h
                          have h9 := px_v0_some h
                          clear h
                          obtain ⟨rfl, h⟩ := h9
                          refine px_E_le (px_leC_L _ _ (by simp [px_leC, px_le1, Value.category])) (e_l_T_shorten_22_62 K N a0 a1 N v27 s21 t22 _ hl33 _ _ ?_)
                          show px_E px_ET px_P 12 166 82 [some (.ref 22), some (.int a0), some (.int a1), none, none, none] [] (px_w K s31 t32) _ _
                          refine px_blk (i' := 84) (L' := [some (.ref 22), some (.int a0), some (.int a1), none, none, none]) (S' := [.int a0, .ref 22]) (w' := px_w K s31 t32) (q := []) 2 hM rfl trivial ?_
                          rcases px_bv_some h with ⟨s36, t37, hk38, h⟩ | ⟨x40, s36, t37, hk38, h⟩
                          · refine px_E_call hM rfl rfl rfl rfl (px_E_mono (by decide) (e_T_giveBackEmptyIndirect_22 K N a0 s31 t32 _ hk38)) ?_
                            refine px_blk (i' := 89) (L' := [some (.ref 22), some (.int a0), some (.int a1), none, none, none]) (S' := [.int a1, .int (1 : Int32), .int a0, .ref 22]) (w' := px_w K s36 t37) (q := []) 4 hM rfl trivial ?_
                            rcases px_bv_some h with ⟨s41, t42, hk43, h⟩ | ⟨x45, s41, t42, hk43, h⟩
                            · refine px_E_call hM rfl rfl rfl rfl (px_E_mono (by decide) (e_T_tellInode_22 K N a0 (1 : Int32) a1 s36 t37 _ hk43)) ?_
                              refine px_blk (i' := 91) (L' := [some (.ref 22), some (.int a0), some (.int a1), none, none, none]) (S' := [.int (0 : Int32)]) (w' := px_w K s41 t42) (q := []) 1 hM rfl trivial ?_
                              cases h
                              exact px_E_ret hM rfl rfl rfl trivial
                            · cases h
                          · cases h
                        · rw [if_neg hi35] at h
                          cases h
                      · cases h
                        exact px_E_le (px_leC_L _ _ (by simp [px_leC, px_le1, Value.category])) (e_l_T_shorten_22_62 K N a0 a1 N v27 s21 t22 _ hl33 _ _ ⟨rfl, rfl⟩)
                    · rw [if_neg hc26] at h
                      refine px_blk (i' := 39) (L' := [some (.ref 22), some (.int a0), some (.int a1), some (.int v24), none, none]) (S' := [.int v24, .ref 22]) (w' := px_w K s21 t22) (q := []) 2 hM rfl trivial ?_
                      rcases px_bv_some h with ⟨s46, t47, hk48, h⟩ | ⟨x50, s46, t47, hk48, h⟩
                      · refine px_E_call hM rfl rfl rfl rfl (px_E_mono (by decide) (e_T_loadFileBlock_22 K N v24 s21 t22 _ hk48)) ?_
                        refine px_blk (i' := 44) (L' := [some (.ref 22), some (.int a0), some (.int a1), some (.int v24), some (.int (a1 - a1 / (16 : Int32) * (16 : Int32))), none]) (S' := []) (w' := px_w K s46 t47) (q := [¬ (16 : Int32) = 0]) 4 hM rfl (show ¬ (16 : Int32) = 0 from (by decide)) ?_
                        obtain ⟨v51, hv52, h⟩ := px_let_some h
                        rw [← hv52]
                        rcases px_lp_some h with ⟨i53, vs54, s55, t56, hl57, h⟩ | ⟨z58, hl57, h⟩
                        · by_cases hi59 : i53 = 54
                          · subst hi59
                            rw [if_pos rfl] at h
                            have h9 := px_v0_some h
                            clear h
                            obtain ⟨rfl, h⟩ := h9
                            refine e_l_T_shorten_22_44 K N a0 a1 v24 N v51 s46 t47 _ hl57 _ _ ?_
                            show px_E px_ET px_P 12 166 54 [some (.ref 22), some (.int a0), some (.int a1), none, none, none] [] (px_w K s55 t56) _ _
                            refine px_blk (i' := 62) (L' := [some (.ref 22), some (.int a0), some (.int a1), none, some (.int (((a1 + (16 : Int32)) - (1 : Int32)) / (16 : Int32))), none]) (S' := []) (w' := px_w K s55 t56) (q := [¬ (16 : Int32) = 0]) 8 hM rfl (show ¬ (16 : Int32) = 0 from (by decide)) ?_
                            obtain ⟨v60, hv61, h⟩ := px_let_some h
                            rw [← hv61]
                            rcases px_lp_some h with ⟨i62, vs63, s64, t65, hl66, h⟩ | ⟨z67, hl66, h⟩
                            · by_cases hi68 : i62 = 82
                              · subst hi68
                                rw [if_pos rfl] at h
                                have h9 := px_v0_some h
                                clear h
                                obtain ⟨rfl, h⟩ := h9
                                refine e_l_T_shorten_22_62 K N a0 a1 N v60 s55 t56 _ hl66 _ _ ?_
                                show px_E px_ET px_P 12 166 82 [some (.ref 22), some (.int a0), some (.int a1), none, none, none] [] (px_w K s64 t65) _ _
                                refine px_blk (i' := 84) (L' := [some (.ref 22), some (.int a0), some (.int a1), none, none, none]) (S' := [.int a0, .ref 22]) (w' := px_w K s64 t65) (q := []) 2 hM rfl trivial ?_
                                rcases px_bv_some h with ⟨s69, t70, hk71, h⟩ | ⟨x73, s69, t70, hk71, h⟩
                                · refine px_E_call hM rfl rfl rfl rfl (px_E_mono (by decide) (e_T_giveBackEmptyIndirect_22 K N a0 s64 t65 _ hk71)) ?_
                                  refine px_blk (i' := 89) (L' := [some (.ref 22), some (.int a0), some (.int a1), none, none, none]) (S' := [.int a1, .int (1 : Int32), .int a0, .ref 22]) (w' := px_w K s69 t70) (q := []) 4 hM rfl trivial ?_
                                  rcases px_bv_some h with ⟨s74, t75, hk76, h⟩ | ⟨x78, s74, t75, hk76, h⟩
                                  · refine px_E_call hM rfl rfl rfl rfl (px_E_mono (by decide) (e_T_tellInode_22 K N a0 (1 : Int32) a1 s69 t70 _ hk76)) ?_
                                    refine px_blk (i' := 91) (L' := [some (.ref 22), some (.int a0), some (.int a1), none, none, none]) (S' := [.int (0 : Int32)]) (w' := px_w K s74 t75) (q := []) 1 hM rfl trivial ?_
                                    cases h
                                    exact px_E_ret hM rfl rfl rfl trivial
                                  · cases h
                                · cases h
                              · rw [if_neg hi68] at h
                                cases h
                            · cases h
                              exact e_l_T_shorten_22_62 K N a0 a1 N v60 s55 t56 _ hl66 _ _ ⟨rfl, rfl⟩
                          · rw [if_neg hi59] at h
                            cases h
                        · cases h
                          exact e_l_T_shorten_22_44 K N a0 a1 v24 N v51 s46 t47 _ hl57 _ _ ⟨rfl, rfl⟩
                      · cases h
                        exact px_E_callT hM rfl rfl rfl rfl (px_E_mono (by decide) (e_T_loadFileBlock_22 K N v24 s21 t22 _ hk48)) rfl
                  · cases h
                · rw [if_neg hc20] at h
                  refine px_blkif (c := (0 : Int32) = 0) (t := 54) (e := 37) (L' := [some (.ref 22), some (.int a0), some (.int a1), some (.int (0 : Int32)), none, none]) (S' := []) (w' := px_w K s14 t15) (q := []) 5 hM rfl trivial (fun hc79 => ?_) (fun hc79 => ?_)
                  · rw [if_pos hc79] at h
                    refine px_blk (i' := 62) (L' := [some (.ref 22), some (.int a0), some (.int a1), some (.int (0 : Int32)), some (.int (((a1 + (16 : Int32)) - (1 : Int32)) / (16 : Int32))), none]) (S' := []) (w' := px_w K s14 t15) (q := [¬ (16 : Int32) = 0]) 8 hM rfl (show ¬ (16 : Int32) = 0 from (by decide)) ?_
                    obtain ⟨v80, hv81, h⟩ := px_let_some h
                    rw [← hv81]
                    rcases px_lp_some h with ⟨i82, vs83, s84, t85, hl86, h⟩ | ⟨z87, hl86, h⟩
                    · by_cases hi88 : i82 = 82
                      · subst hi88
                        rw [if_pos rfl] at h
                        have h9 := px_v0_some h
                        clear h
                        obtain ⟨rfl, h⟩ := h9
                        refine px_E_le (px_leC_L _ _ (by simp [px_leC, px_le1, Value.category])) (e_l_T_shorten_22_62 K N a0 a1 N v80 s14 t15 _ hl86 _ _ ?_)
                        show px_E px_ET px_P 12 166 82 [some (.ref 22), some (.int a0), some (.int a1), none, none, none] [] (px_w K s84 t85) _ _
                        refine px_blk (i' := 84) (L' := [some (.ref 22), some (.int a0), some (.int a1), none, none, none]) (S' := [.int a0, .ref 22]) (w' := px_w K s84 t85) (q := []) 2 hM rfl trivial ?_
                        rcases px_bv_some h with ⟨s89, t90, hk91, h⟩ | ⟨x93, s89, t90, hk91, h⟩
                        · refine px_E_call hM rfl rfl rfl rfl (px_E_mono (by decide) (e_T_giveBackEmptyIndirect_22 K N a0 s84 t85 _ hk91)) ?_
                          refine px_blk (i' := 89) (L' := [some (.ref 22), some (.int a0), some (.int a1), none, none, none]) (S' := [.int a1, .int (1 : Int32), .int a0, .ref 22]) (w' := px_w K s89 t90) (q := []) 4 hM rfl trivial ?_
                          rcases px_bv_some h with ⟨s94, t95, hk96, h⟩ | ⟨x98, s94, t95, hk96, h⟩
                          · refine px_E_call hM rfl rfl rfl rfl (px_E_mono (by decide) (e_T_tellInode_22 K N a0 (1 : Int32) a1 s89 t90 _ hk96)) ?_
                            refine px_blk (i' := 91) (L' := [some (.ref 22), some (.int a0), some (.int a1), none, none, none]) (S' := [.int (0 : Int32)]) (w' := px_w K s94 t95) (q := []) 1 hM rfl trivial ?_
                            cases h
                            exact px_E_ret hM rfl rfl rfl trivial
                          · cases h
                        · cases h
                      · rw [if_neg hi88] at h
                        cases h
                    · cases h
                      exact px_E_le (px_leC_L _ _ (by simp [px_leC, px_le1, Value.category])) (e_l_T_shorten_22_62 K N a0 a1 N v80 s14 t15 _ hl86 _ _ ⟨rfl, rfl⟩)
                  · rw [if_neg hc79] at h
                    refine px_blk (i' := 39) (L' := [some (.ref 22), some (.int a0), some (.int a1), some (.int (0 : Int32)), none, none]) (S' := [.int (0 : Int32), .ref 22]) (w' := px_w K s14 t15) (q := []) 2 hM rfl trivial ?_
                    rcases px_bv_some h with ⟨s99, t100, hk101, h⟩ | ⟨x103, s99, t100, hk101, h⟩
                    · refine px_E_call hM rfl rfl rfl rfl (px_E_mono (by decide) (e_T_loadFileBlock_22 K N (0 : Int32) s14 t15 _ hk101)) ?_
                      refine px_blk (i' := 44) (L' := [some (.ref 22), some (.int a0), some (.int a1), some (.int (0 : Int32)), some (.int (a1 - a1 / (16 : Int32) * (16 : Int32))), none]) (S' := []) (w' := px_w K s99 t100) (q := [¬ (16 : Int32) = 0]) 4 hM rfl (show ¬ (16 : Int32) = 0 from (by decide)) ?_
                      obtain ⟨v104, hv105, h⟩ := px_let_some h
                      rw [← hv105]
                      rcases px_lp_some h with ⟨i106, vs107, s108, t109, hl110, h⟩ | ⟨z111, hl110, h⟩
                      · by_cases hi112 : i106 = 54
                        · subst hi112
                          rw [if_pos rfl] at h
                          have h9 := px_v0_some h
                          clear h
                          obtain ⟨rfl, h⟩ := h9
                          refine e_l_T_shorten_22_44 K N a0 a1 (0 : Int32) N v104 s99 t100 _ hl110 _ _ ?_
                          show px_E px_ET px_P 12 166 54 [some (.ref 22), some (.int a0), some (.int a1), none, none, none] [] (px_w K s108 t109) _ _
                          refine px_blk (i' := 62) (L' := [some (.ref 22), some (.int a0), some (.int a1), none, some (.int (((a1 + (16 : Int32)) - (1 : Int32)) / (16 : Int32))), none]) (S' := []) (w' := px_w K s108 t109) (q := [¬ (16 : Int32) = 0]) 8 hM rfl (show ¬ (16 : Int32) = 0 from (by decide)) ?_
                          obtain ⟨v113, hv114, h⟩ := px_let_some h
                          rw [← hv114]
                          rcases px_lp_some h with ⟨i115, vs116, s117, t118, hl119, h⟩ | ⟨z120, hl119, h⟩
                          · by_cases hi121 : i115 = 82
                            · subst hi121
                              rw [if_pos rfl] at h
                              have h9 := px_v0_some h
                              clear h
                              obtain ⟨rfl, h⟩ := h9
                              refine e_l_T_shorten_22_62 K N a0 a1 N v113 s108 t109 _ hl119 _ _ ?_
                              show px_E px_ET px_P 12 166 82 [some (.ref 22), some (.int a0), some (.int a1), none, none, none] [] (px_w K s117 t118) _ _
                              refine px_blk (i' := 84) (L' := [some (.ref 22), some (.int a0), some (.int a1), none, none, none]) (S' := [.int a0, .ref 22]) (w' := px_w K s117 t118) (q := []) 2 hM rfl trivial ?_
                              rcases px_bv_some h with ⟨s122, t123, hk124, h⟩ | ⟨x126, s122, t123, hk124, h⟩
                              · refine px_E_call hM rfl rfl rfl rfl (px_E_mono (by decide) (e_T_giveBackEmptyIndirect_22 K N a0 s117 t118 _ hk124)) ?_
                                refine px_blk (i' := 89) (L' := [some (.ref 22), some (.int a0), some (.int a1), none, none, none]) (S' := [.int a1, .int (1 : Int32), .int a0, .ref 22]) (w' := px_w K s122 t123) (q := []) 4 hM rfl trivial ?_
                                rcases px_bv_some h with ⟨s127, t128, hk129, h⟩ | ⟨x131, s127, t128, hk129, h⟩
                                · refine px_E_call hM rfl rfl rfl rfl (px_E_mono (by decide) (e_T_tellInode_22 K N a0 (1 : Int32) a1 s122 t123 _ hk129)) ?_
                                  refine px_blk (i' := 91) (L' := [some (.ref 22), some (.int a0), some (.int a1), none, none, none]) (S' := [.int (0 : Int32)]) (w' := px_w K s127 t128) (q := []) 1 hM rfl trivial ?_
                                  cases h
                                  exact px_E_ret hM rfl rfl rfl trivial
                                · cases h
                              · cases h
                            · rw [if_neg hi121] at h
                              cases h
                          · cases h
                            exact e_l_T_shorten_22_62 K N a0 a1 N v113 s108 t109 _ hl119 _ _ ⟨rfl, rfl⟩
                        · rw [if_neg hi112] at h
                          cases h
                      · cases h
                        exact e_l_T_shorten_22_44 K N a0 a1 (0 : Int32) N v104 s99 t100 _ hl110 _ _ ⟨rfl, rfl⟩
                    · cases h
                      exact px_E_callT hM rfl rfl rfl rfl (px_E_mono (by decide) (e_T_loadFileBlock_22 K N (0 : Int32) s14 t15 _ hk101)) rfl
              · rw [if_neg hc19] at h
                refine px_blk (i' := 21) (L' := [some (.ref 22), some (.int a0), some (.int a1), none, none, none]) (S' := [.int (0 : Int32)]) (w' := px_w K s14 t15) (q := []) 1 hM rfl trivial ?_
                cases h
                exact px_E_ret hM rfl rfl rfl trivial
            · cases h
          · rw [if_neg hc13] at h
            refine px_blk (i' := 13) (L' := [some (.ref 22), some (.int a0), some (.int a1), none, none, none]) (S' := [.int (-4 : Int32)]) (w' := px_w K s8 t9) (q := []) 1 hM rfl trivial ?_
            cases h
            exact px_E_ret hM rfl rfl rfl trivial
        · cases h
  · cases h
noncomputable def f_E_cut_1 (K : px_K) (N : Nat) (a0 : Int32) (a1 : Int32) (s : px_S) (t : px_W) : Option px_Res :=
  (if ¬ (s.1 0) = 0 then (px_bv (f_T_commitAbove_22 K N (7 : Int32) s t) (fun s2 t3 => (px_bi (f_T_shorten_22 K N a0 a1 s2 t3) (fun v10 s7 t8 => (some (.inl (some (.int v10)), s7, t8))) (fun x11 s7 t8 => (px_gd (px_isx t8 x11 7) (px_bi (f_E_goDown_1 K N (s7.2.1 2) s7 t8) (fun v15 s12 t13 => (some (.inl (some (.int v15)), s12, t13))) (fun x16 s12 t13 => none)))))) (fun x6 s2 t3 => (px_gd (px_isx t3 x6 7) (px_bi (f_E_goDown_1 K N (s2.2.1 2) s2 t3) (fun v21 s18 t19 => (some (.inl (some (.int v21)), s18, t19))) (fun x22 s18 t19 => none))))) else (some (.inl (some (.int (-9 : Int32))), s, t)))
set_option maxRecDepth 100000 in
theorem e_E_cut_1 (K : px_K) (N : Nat) (a0 : Int32) (a1 : Int32) (s : px_S) (t : px_W) (r : px_Res) (h : f_E_cut_1 K N a0 a1 s t = some r) : px_E px_ET px_P 15 5 0 (px_ent 4 [.ref 1, .int a0, .int a1]) [] (px_w K s t) r.1 (px_w K r.2.1 r.2.2) := by
  have hM : px_P[5]? = some pm_E_cut := rfl
  unfold f_E_cut_1 at h
  refine px_blkif (c := ¬ (s.1 0) = 0) (t := 6) (e := 4) (L' := [some (.ref 1), some (.int a0), some (.int a1), none]) (S' := []) (w' := px_w K s t) (q := []) 4 hM rfl trivial (fun hc1 => ?_) (fun hc1 => ?_)
  · rw [if_pos hc1] at h
    refine px_blk (i' := 9) (L' := [some (.ref 1), some (.int a0), some (.int a1), none]) (S' := [.int (7 : Int32), .ref 22]) (w' := px_w K s t) (q := []) 3 hM rfl trivial ?_
    rcases px_bv_some h with ⟨s2, t3, hk4, h⟩ | ⟨x6, s2, t3, hk4, h⟩
    · refine px_E_call hM rfl rfl rfl rfl (px_E_mono (by decide) (e_T_commitAbove_22 K N (7 : Int32) s t _ hk4)) ?_
      refine px_blk (i' := 14) (L' := [some (.ref 1), some (.int a0), some (.int a1), none]) (S' := [.int a1, .int a0, .ref 22]) (w' := px_w K s2 t3) (q := []) 4 hM rfl trivial ?_
      rcases px_bi_some h with ⟨v10, s7, t8, hk9, h⟩ | ⟨x11, s7, t8, hk9, h⟩
      · refine px_E_call hM rfl rfl rfl rfl (px_E_mono (by decide) (e_T_shorten_22 K N a0 a1 s2 t3 _ hk9)) ?_
        cases h
        exact px_E_ret hM rfl rfl rfl trivial
      · obtain ⟨hx17, h⟩ := px_gd_some h
        refine px_E_callC hM rfl rfl rfl rfl (px_E_mono (by decide) (e_T_shorten_22 K N a0 a1 s2 t3 _ hk9)) (px_hnd_of rfl rfl hx17) ?_
        refine px_blk (i' := 21) (L' := [some (.ref 1), some (.int a0), some (.int a1), some (.ref (x11))]) (S' := [.long (s7.2.1 2), .ref 1]) (w' := px_w K s7 t8) (q := []) 5 hM rfl trivial ?_
        rcases px_bi_some h with ⟨v15, s12, t13, hk14, h⟩ | ⟨x16, s12, t13, hk14, h⟩
        · refine px_E_call hM rfl rfl rfl rfl (px_E_mono (by decide) (e_E_goDown_1 K N (s7.2.1 2) s7 t8 _ hk14)) ?_
          cases h
          exact px_E_ret hM rfl rfl rfl trivial
        · cases h
    · obtain ⟨hx23, h⟩ := px_gd_some h
      refine px_E_callC hM rfl rfl rfl rfl (px_E_mono (by decide) (e_T_commitAbove_22 K N (7 : Int32) s t _ hk4)) (px_hnd_of rfl rfl hx23) ?_
      refine px_blk (i' := 21) (L' := [some (.ref 1), some (.int a0), some (.int a1), some (.ref (x6))]) (S' := [.long (s2.2.1 2), .ref 1]) (w' := px_w K s2 t3) (q := []) 5 hM rfl trivial ?_
      rcases px_bi_some h with ⟨v21, s18, t19, hk20, h⟩ | ⟨x22, s18, t19, hk20, h⟩
      · refine px_E_call hM rfl rfl rfl rfl (px_E_mono (by decide) (e_E_goDown_1 K N (s2.2.1 2) s2 t3 _ hk20)) ?_
        cases h
        exact px_E_ret hM rfl rfl rfl trivial
      · cases h
  · rw [if_neg hc1] at h
    refine px_blk (i' := 5) (L' := [some (.ref 1), some (.int a0), some (.int a1), none]) (S' := [.int (-9 : Int32)]) (w' := px_w K s t) (q := []) 1 hM rfl trivial ?_
    cases h
    exact px_E_ret hM rfl rfl rfl trivial
noncomputable def l_T_namesIn_22_4 (K : px_K) (N : Nat) (n : Nat) (u1 : Int32) (m2 : Int32) (m3 : Int32) (s : px_S) (t : px_W) : Option px_LO := match n with
  | 0 => none
  | n + 1 => (px_bi (f_T_placesOf_22 K N u1 s t) (fun v4 s1 t2 => (if v4 ≤ m3 then (some (.inl (18, [m2], s1, t2))) else (px_bi (f_T_entryWord_22 K N u1 m3 (0 : Int32) s1 t2) (fun v10 s7 t8 => (if v10 = 0 then (l_T_namesIn_22_4 K N n u1 m2 (m3 + (1 : Int32)) s7 t8) else (l_T_namesIn_22_4 K N n u1 (m2 + (1 : Int32)) (m3 + (1 : Int32)) s7 t8))) (fun x11 s7 t8 => none)))) (fun x5 s1 t2 => none))
def a_l_T_namesIn_22_4 (K : px_K) (u1 : Int32) (z : px_LO) (o : Option Value ⊕ Nat) (w2 : px_W) : Prop := match z with
  | .inr (o', s', t') => o = o' ∧ w2 = px_w K s' t'
  | .inl (18, [y2], s', t') => px_E px_ET px_P 5 154 18 [none, none, some (.int y2), none] [] (px_w K s' t') o w2
  | _ => False
set_option maxRecDepth 100000 in
theorem e_l_T_namesIn_22_4 (K : px_K) (N : Nat) (u1 : Int32) : ∀ (n : Nat) (m2 : Int32) (m3 : Int32) (s : px_S) (t : px_W) (z : px_LO), l_T_namesIn_22_4 K N n u1 m2 m3 s t = some z → ∀ (o : Option Value ⊕ Nat) (w2 : px_W), a_l_T_namesIn_22_4 K u1 z o w2 → px_E px_ET px_P 5 154 4 [some (.ref 22), some (.int u1), some (.int m2), some (.int m3)] [] (px_w K s t) o w2 := by
  have hM : px_P[154]? = some pm_T_namesIn := rfl
  intro n
  induction n with
  | zero => intro m2 m3 s t z h; cases h
  | succ n ih =>
    intro m2 m3 s t z h o w2 ha
    unfold l_T_namesIn_22_4 at h
    refine px_blk (i' := 7) (L' := [some (.ref 22), some (.int u1), some (.int m2), some (.int m3)]) (S' := [.int u1, .ref 22, .int m3]) (w' := px_w K s t) (q := []) 3 hM rfl trivial ?_
    rcases px_bi_some h with ⟨v4, s1, t2, hk3, h⟩ | ⟨x5, s1, t2, hk3, h⟩
    · refine px_E_call hM rfl rfl rfl rfl (px_E_mono (by decide) (e_T_placesOf_22 K N u1 s t _ hk3)) ?_
      refine px_blkif (c := v4 ≤ m3) (t := 18) (e := 9) (L' := [some (.ref 22), some (.int u1), some (.int m2), some (.int m3)]) (S' := []) (w' := px_w K s1 t2) (q := []) 1 hM rfl trivial (fun hc6 => ?_) (fun hc6 => ?_)
      · rw [if_pos hc6] at h
        cases h
        exact px_E_le (px_leC_L _ _ (by simp [px_leC, px_le1, Value.category])) ha
      · rw [if_neg hc6] at h
        refine px_blk (i' := 13) (L' := [some (.ref 22), some (.int u1), some (.int m2), some (.int m3)]) (S' := [.int (0 : Int32), .int m3, .int u1, .ref 22]) (w' := px_w K s1 t2) (q := []) 4 hM rfl trivial ?_
        rcases px_bi_some h with ⟨v10, s7, t8, hk9, h⟩ | ⟨x11, s7, t8, hk9, h⟩
        · refine px_E_call hM rfl rfl rfl rfl (px_E_mono (by decide) (e_T_entryWord_22 K N u1 m3 (0 : Int32) s1 t2 _ hk9)) ?_
          refine px_blkif (c := v10 = 0) (t := 16) (e := 15) (L' := [some (.ref 22), some (.int u1), some (.int m2), some (.int m3)]) (S' := []) (w' := px_w K s7 t8) (q := []) 1 hM rfl trivial (fun hc12 => ?_) (fun hc12 => ?_)
          · rw [if_pos hc12] at h
            refine px_blk (i' := 4) (L' := [some (.ref 22), some (.int u1), some (.int m2), some (.int (m3 + (1 : Int32)))]) (S' := []) (w' := px_w K s7 t8) (q := []) 2 hM rfl trivial ?_
            exact ih m2 (m3 + (1 : Int32)) s7 t8 z h o w2 ha
          · rw [if_neg hc12] at h
            refine px_blk (i' := 4) (L' := [some (.ref 22), some (.int u1), some (.int (m2 + (1 : Int32))), some (.int (m3 + (1 : Int32)))]) (S' := []) (w' := px_w K s7 t8) (q := []) 3 hM rfl trivial ?_
            exact ih (m2 + (1 : Int32)) (m3 + (1 : Int32)) s7 t8 z h o w2 ha
        · cases h
    · cases h
noncomputable def f_T_namesIn_22 (K : px_K) (N : Nat) (a0 : Int32) (s : px_S) (t : px_W) : Option px_Res :=
  (px_lp (l_T_namesIn_22_4 K N N a0 (0 : Int32) (0 : Int32) s t) (fun i1 vs2 s3 t4 => (if i1 = 18 then (px_v1 vs2 (fun y7 => (some (.inl (some (.int y7)), s3, t4)))) else none)) (fun z6 => some z6))
set_option maxRecDepth 100000 in
theorem e_T_namesIn_22 (K : px_K) (N : Nat) (a0 : Int32) (s : px_S) (t : px_W) (r : px_Res) (h : f_T_namesIn_22 K N a0 s t = some r) : px_E px_ET px_P 5 154 0 (px_ent 4 [.ref 22, .int a0]) [] (px_w K s t) r.1 (px_w K r.2.1 r.2.2) := by
  have hM : px_P[154]? = some pm_T_namesIn := rfl
  unfold f_T_namesIn_22 at h
  refine px_blk (i' := 4) (L' := [some (.ref 22), some (.int a0), some (.int (0 : Int32)), some (.int (0 : Int32))]) (S' := []) (w' := px_w K s t) (q := []) 4 hM rfl trivial ?_
  rcases px_lp_some h with ⟨i1, vs2, s3, t4, hl5, h⟩ | ⟨z6, hl5, h⟩
  · by_cases hi8 : i1 = 18
    · subst hi8
      rw [if_pos rfl] at h
      have h9 := px_v1_some h
      clear h
      obtain ⟨y7, rfl, h⟩ := h9
      refine e_l_T_namesIn_22_4 K N a0 N (0 : Int32) (0 : Int32) s t _ hl5 _ _ ?_
      show px_E px_ET px_P 5 154 18 [none, none, some (.int y7), none] [] (px_w K s3 t4) _ _
      refine px_blk (i' := 19) (L' := [none, none, some (.int y7), none]) (S' := [.int y7]) (w' := px_w K s3 t4) (q := []) 1 hM rfl trivial ?_
      cases h
      exact px_E_ret hM rfl rfl rfl trivial
    · rw [if_neg hi8] at h
      cases h
  · cases h
    exact e_l_T_namesIn_22_4 K N a0 N (0 : Int32) (0 : Int32) s t _ hl5 _ _ ⟨rfl, rfl⟩
noncomputable def l_T_erase_22_38 (K : px_K) (N : Nat) (n : Nat) (u1 : Int32) (u3 : Int32) (u4 : Int32) (m5 : Int32) (s : px_S) (t : px_W) : Option px_LO := match n with
  | 0 => none
  | n + 1 => (if (20 : Int32) ≤ m5 then (some (.inl (49, [], s, t))) else (px_bi (f_T_blockOf_22 K N u4 m5 s t) (fun v5 s2 t3 => (px_bv (f_T_giveBack_22 K N v5 s2 t3) (fun s7 t8 => (l_T_erase_22_38 K N n u1 u3 u4 (m5 + (1 : Int32)) s7 t8)) (fun x11 s7 t8 => none))) (fun x6 s2 t3 => none)))
def a_l_T_erase_22_38 (K : px_K) (u1 : Int32) (u3 : Int32) (u4 : Int32) (z : px_LO) (o : Option Value ⊕ Nat) (w2 : px_W) : Prop := match z with
  | .inr (o', s', t') => o = o' ∧ w2 = px_w K s' t'
  | .inl (49, [], s', t') => px_E px_ET px_P 6 160 49 [some (.ref 22), some (.int u1), none, some (.int u3), some (.int u4), none] [] (px_w K s' t') o w2
  | _ => False
noncomputable def l_T_erase_22_56 (K : px_K) (N : Nat) (n : Nat) (u1 : Int32) (u3 : Int32) (u4 : Int32) (m5 : Int32) (s : px_S) (t : px_W) : Option px_LO := match n with
  | 0 => none
  | n + 1 => (if (8 : Int32) ≤ m5 then (some (.inl (66, [], s, t))) else (px_bv (f_T_tellInode_22 K N u4 m5 (0 : Int32) s t) (fun s2 t3 => (l_T_erase_22_56 K N n u1 u3 u4 (m5 + (1 : Int32)) s2 t3)) (fun x6 s2 t3 => none)))
def a_l_T_erase_22_56 (K : px_K) (u1 : Int32) (u3 : Int32) (u4 : Int32) (z : px_LO) (o : Option Value ⊕ Nat) (w2 : px_W) : Prop := match z with
  | .inr (o', s', t') => o = o' ∧ w2 = px_w K s' t'
  | .inl (66, [], s', t') => px_E px_ET px_P 6 160 66 [some (.ref 22), some (.int u1), none, some (.int u3), none, none] [] (px_w K s' t') o w2
  | _ => False
set_option maxRecDepth 100000 in
theorem e_l_T_erase_22_38 (K : px_K) (N : Nat) (u1 : Int32) (u3 : Int32) (u4 : Int32) : ∀ (n : Nat) (m5 : Int32) (s : px_S) (t : px_W) (z : px_LO), l_T_erase_22_38 K N n u1 u3 u4 m5 s t = some z → ∀ (o : Option Value ⊕ Nat) (w2 : px_W), a_l_T_erase_22_38 K u1 u3 u4 z o w2 → px_E px_ET px_P 6 160 38 [some (.ref 22), some (.int u1), none, some (.int u3), some (.int u4), some (.int m5)] [] (px_w K s t) o w2 := by
  have hM : px_P[160]? = some pm_T_erase := rfl
  intro n
  induction n with
  | zero => intro m5 s t z h; cases h
  | succ n ih =>
    intro m5 s t z h o w2 ha
    unfold l_T_erase_22_38 at h
    refine px_blkif (c := (20 : Int32) ≤ m5) (t := 49) (e := 41) (L' := [some (.ref 22), some (.int u1), none, some (.int u3), some (.int u4), some (.int m5)]) (S' := []) (w' := px_w K s t) (q := []) 3 hM rfl trivial (fun hc1 => ?_) (fun hc1 => ?_)
    · rw [if_pos hc1] at h
      cases h
      exact px_E_le (px_leC_L _ _ (by simp [px_leC, px_le1, Value.category])) ha
    · rw [if_neg hc1] at h
      refine px_blk (i' := 45) (L' := [some (.ref 22), some (.int u1), none, some (.int u3), some (.int u4), some (.int m5)]) (S' := [.int m5, .int u4, .ref 22, .ref 22]) (w' := px_w K s t) (q := []) 4 hM rfl trivial ?_
      rcases px_bi_some h with ⟨v5, s2, t3, hk4, h⟩ | ⟨x6, s2, t3, hk4, h⟩
      · refine px_E_call hM rfl rfl rfl rfl (px_E_mono (by decide) (e_T_blockOf_22 K N u4 m5 s t _ hk4)) ?_
        rcases px_bv_some h with ⟨s7, t8, hk9, h⟩ | ⟨x11, s7, t8, hk9, h⟩
        · refine px_E_call hM rfl rfl rfl rfl (px_E_mono (by decide) (e_T_giveBack_22 K N v5 s2 t3 _ hk9)) ?_
          refine px_blk (i' := 38) (L' := [some (.ref 22), some (.int u1), none, some (.int u3), some (.int u4), some (.int (m5 + (1 : Int32)))]) (S' := []) (w' := px_w K s7 t8) (q := []) 2 hM rfl trivial ?_
          exact ih (m5 + (1 : Int32)) s7 t8 z h o w2 ha
        · cases h
      · cases h
set_option maxRecDepth 100000 in
theorem e_l_T_erase_22_56 (K : px_K) (N : Nat) (u1 : Int32) (u3 : Int32) (u4 : Int32) : ∀ (n : Nat) (m5 : Int32) (s : px_S) (t : px_W) (z : px_LO), l_T_erase_22_56 K N n u1 u3 u4 m5 s t = some z → ∀ (o : Option Value ⊕ Nat) (w2 : px_W), a_l_T_erase_22_56 K u1 u3 u4 z o w2 → px_E px_ET px_P 6 160 56 [some (.ref 22), some (.int u1), none, some (.int u3), some (.int u4), some (.int m5)] [] (px_w K s t) o w2 := by
  have hM : px_P[160]? = some pm_T_erase := rfl
  intro n
  induction n with
  | zero => intro m5 s t z h; cases h
  | succ n ih =>
    intro m5 s t z h o w2 ha
    unfold l_T_erase_22_56 at h
    refine px_blkif (c := (8 : Int32) ≤ m5) (t := 66) (e := 59) (L' := [some (.ref 22), some (.int u1), none, some (.int u3), some (.int u4), some (.int m5)]) (S' := []) (w' := px_w K s t) (q := []) 3 hM rfl trivial (fun hc1 => ?_) (fun hc1 => ?_)
    · rw [if_pos hc1] at h
      cases h
      exact px_E_le (px_leC_L _ _ (by simp [px_leC, px_le1, Value.category])) ha
    · rw [if_neg hc1] at h
      refine px_blk (i' := 63) (L' := [some (.ref 22), some (.int u1), none, some (.int u3), some (.int u4), some (.int m5)]) (S' := [.int (0 : Int32), .int m5, .int u4, .ref 22]) (w' := px_w K s t) (q := []) 4 hM rfl trivial ?_
      rcases px_bv_some h with ⟨s2, t3, hk4, h⟩ | ⟨x6, s2, t3, hk4, h⟩
      · refine px_E_call hM rfl rfl rfl rfl (px_E_mono (by decide) (e_T_tellInode_22 K N u4 m5 (0 : Int32) s t _ hk4)) ?_
        refine px_blk (i' := 56) (L' := [some (.ref 22), some (.int u1), none, some (.int u3), some (.int u4), some (.int (m5 + (1 : Int32)))]) (S' := []) (w' := px_w K s2 t3) (q := []) 2 hM rfl trivial ?_
        exact ih (m5 + (1 : Int32)) s2 t3 z h o w2 ha
      · cases h
noncomputable def f_T_erase_22 (K : px_K) (N : Nat) (a0 : Int32) (a1 : Int32) (s : px_S) (t : px_W) : Option px_Res :=
  (px_bi (f_T_isDirectory_22 K N a0 s t) (fun v4 s1 t2 => (if ¬ v4 = 0 then (if (1 : Int32) ≤ a1 then (px_bi (f_T_placeOf_22 K N a0 a1 s1 t2) (fun v11 s8 t9 => (if 0 ≤ v11 then (px_bi (f_T_entryWord_22 K N a0 v11 (1 : Int32) s8 t9) (fun v17 s14 t15 => (px_bi (f_T_isDirectory_22 K N v17 s14 t15) (fun v22 s19 t20 => (if v22 = 0 then (px_lp (l_T_erase_22_38 K N N a0 v11 v17 (0 : Int32) s19 t20) (fun i25 vs26 s27 t28 => (if i25 = 49 then (px_v0 vs26 (px_bi (f_T_indirectOf_22 K N v17 s27 t28) (fun v35 s32 t33 => (px_bv (f_T_giveBack_22 K N v35 s32 t33) (fun s37 t38 => (px_lp (l_T_erase_22_56 K N N a0 v11 v17 (0 : Int32) s37 t38) (fun i42 vs43 s44 t45 => (if i42 = 66 then (px_v0 vs43 (px_bv (f_T_tellEntry_22 K N a0 v11 (0 : Int32) (0 : Int32) s44 t45) (fun s49 t50 => (some (.inl (some (.int (0 : Int32))), s49, t50))) (fun x53 s49 t50 => none))) else none)) (fun z47 => some z47))) (fun x41 s37 t38 => none))) (fun x36 s32 t33 => none))) else none)) (fun z30 => some z30)) else (px_bi (f_T_namesIn_22 K N v17 s19 t20) (fun v57 s54 t55 => (if v57 ≤ 0 then (px_lp (l_T_erase_22_38 K N N a0 v11 v17 (0 : Int32) s54 t55) (fun i60 vs61 s62 t63 => (if i60 = 49 then (px_v0 vs61 (px_bi (f_T_indirectOf_22 K N v17 s62 t63) (fun v70 s67 t68 => (px_bv (f_T_giveBack_22 K N v70 s67 t68) (fun s72 t73 => (px_lp (l_T_erase_22_56 K N N a0 v11 v17 (0 : Int32) s72 t73) (fun i77 vs78 s79 t80 => (if i77 = 66 then (px_v0 vs78 (px_bv (f_T_tellEntry_22 K N a0 v11 (0 : Int32) (0 : Int32) s79 t80) (fun s84 t85 => (some (.inl (some (.int (0 : Int32))), s84, t85))) (fun x88 s84 t85 => none))) else none)) (fun z82 => some z82))) (fun x76 s72 t73 => none))) (fun x71 s67 t68 => none))) else none)) (fun z65 => some z65)) else (some (.inl (some (.int (-3 : Int32))), s54, t55)))) (fun x58 s54 t55 => none)))) (fun x23 s19 t20 => none))) (fun x18 s14 t15 => none)) else (some (.inl (some (.int (-1 : Int32))), s8, t9)))) (fun x12 s8 t9 => none)) else (if 0 ≤ (-1 : Int32) then (px_bi (f_T_entryWord_22 K N a0 (-1 : Int32) (1 : Int32) s1 t2) (fun v93 s90 t91 => (px_bi (f_T_isDirectory_22 K N v93 s90 t91) (fun v98 s95 t96 => (if v98 = 0 then (px_lp (l_T_erase_22_38 K N N a0 (-1 : Int32) v93 (0 : Int32) s95 t96) (fun i101 vs102 s103 t104 => (if i101 = 49 then (px_v0 vs102 (px_bi (f_T_indirectOf_22 K N v93 s103 t104) (fun v111 s108 t109 => (px_bv (f_T_giveBack_22 K N v111 s108 t109) (fun s113 t114 => (px_lp (l_T_erase_22_56 K N N a0 (-1 : Int32) v93 (0 : Int32) s113 t114) (fun i118 vs119 s120 t121 => (if i118 = 66 then (px_v0 vs119 (px_bv (f_T_tellEntry_22 K N a0 (-1 : Int32) (0 : Int32) (0 : Int32) s120 t121) (fun s125 t126 => (some (.inl (some (.int (0 : Int32))), s125, t126))) (fun x129 s125 t126 => none))) else none)) (fun z123 => some z123))) (fun x117 s113 t114 => none))) (fun x112 s108 t109 => none))) else none)) (fun z106 => some z106)) else (px_bi (f_T_namesIn_22 K N v93 s95 t96) (fun v133 s130 t131 => (if v133 ≤ 0 then (px_lp (l_T_erase_22_38 K N N a0 (-1 : Int32) v93 (0 : Int32) s130 t131) (fun i136 vs137 s138 t139 => (if i136 = 49 then (px_v0 vs137 (px_bi (f_T_indirectOf_22 K N v93 s138 t139) (fun v146 s143 t144 => (px_bv (f_T_giveBack_22 K N v146 s143 t144) (fun s148 t149 => (px_lp (l_T_erase_22_56 K N N a0 (-1 : Int32) v93 (0 : Int32) s148 t149) (fun i153 vs154 s155 t156 => (if i153 = 66 then (px_v0 vs154 (px_bv (f_T_tellEntry_22 K N a0 (-1 : Int32) (0 : Int32) (0 : Int32) s155 t156) (fun s160 t161 => (some (.inl (some (.int (0 : Int32))), s160, t161))) (fun x164 s160 t161 => none))) else none)) (fun z158 => some z158))) (fun x152 s148 t149 => none))) (fun x147 s143 t144 => none))) else none)) (fun z141 => some z141)) else (some (.inl (some (.int (-3 : Int32))), s130, t131)))) (fun x134 s130 t131 => none)))) (fun x99 s95 t96 => none))) (fun x94 s90 t91 => none)) else (some (.inl (some (.int (-1 : Int32))), s1, t2)))) else (some (.inl (some (.int (-4 : Int32))), s1, t2)))) (fun x5 s1 t2 => none))
set_option maxRecDepth 100000 in
theorem e_T_erase_22 (K : px_K) (N : Nat) (a0 : Int32) (a1 : Int32) (s : px_S) (t : px_W) (r : px_Res) (h : f_T_erase_22 K N a0 a1 s t = some r) : px_E px_ET px_P 6 160 0 (px_ent 6 [.ref 22, .int a0, .int a1]) [] (px_w K s t) r.1 (px_w K r.2.1 r.2.2) := by
  have hM : px_P[160]? = some pm_T_erase := rfl
  unfold f_T_erase_22 at h
  refine px_blk (i' := 2) (L' := [some (.ref 22), some (.int a0), some (.int a1), none, none, none]) (S' := [.int a0, .ref 22]) (w' := px_w K s t) (q := []) 2 hM rfl trivial ?_
  rcases px_bi_some h with ⟨v4, s1, t2, hk3, h⟩ | ⟨x5, s1, t2, hk3, h⟩
  · refine px_E_call hM rfl rfl rfl rfl (px_E_mono (by decide) (e_T_isDirectory_22 K N a0 s t _ hk3)) ?_
    refine px_blkif (c := ¬ v4 = 0) (t := 6) (e := 4) (L' := [some (.ref 22), some (.int a0), some (.int a1), none, none, none]) (S' := []) (w' := px_w K s1 t2) (q := []) 1 hM rfl trivial (fun hc6 => ?_) (fun hc6 => ?_)
    · rw [if_pos hc6] at h
      refine px_blkif (c := (1 : Int32) ≤ a1) (t := 11) (e := 9) (L' := [some (.ref 22), some (.int a0), some (.int a1), none, none, none]) (S' := []) (w' := px_w K s1 t2) (q := []) 3 hM rfl trivial (fun hc7 => ?_) (fun hc7 => ?_)
      · rw [if_pos hc7] at h
        refine px_blk (i' := 14) (L' := [some (.ref 22), some (.int a0), some (.int a1), none, none, none]) (S' := [.int a1, .int a0, .ref 22]) (w' := px_w K s1 t2) (q := []) 3 hM rfl trivial ?_
        rcases px_bi_some h with ⟨v11, s8, t9, hk10, h⟩ | ⟨x12, s8, t9, hk10, h⟩
        · refine px_E_call hM rfl rfl rfl rfl (px_E_mono (by decide) (e_T_placeOf_22 K N a0 a1 s1 t2 _ hk10)) ?_
          refine px_blkif (c := 0 ≤ v11) (t := 20) (e := 18) (L' := [some (.ref 22), some (.int a0), some (.int a1), some (.int v11), none, none]) (S' := []) (w' := px_w K s8 t9) (q := []) 3 hM rfl trivial (fun hc13 => ?_) (fun hc13 => ?_)
          · rw [if_pos hc13] at h
            refine px_blk (i' := 24) (L' := [some (.ref 22), some (.int a0), some (.int a1), some (.int v11), none, none]) (S' := [.int (1 : Int32), .int v11, .int a0, .ref 22]) (w' := px_w K s8 t9) (q := []) 4 hM rfl trivial ?_
            rcases px_bi_some h with ⟨v17, s14, t15, hk16, h⟩ | ⟨x18, s14, t15, hk16, h⟩
            · refine px_E_call hM rfl rfl rfl rfl (px_E_mono (by decide) (e_T_entryWord_22 K N a0 v11 (1 : Int32) s8 t9 _ hk16)) ?_
              refine px_blk (i' := 28) (L' := [some (.ref 22), some (.int a0), some (.int a1), some (.int v11), some (.int v17), none]) (S' := [.int v17, .ref 22]) (w' := px_w K s14 t15) (q := []) 3 hM rfl trivial ?_
              rcases px_bi_some h with ⟨v22, s19, t20, hk21, h⟩ | ⟨x23, s19, t20, hk21, h⟩
              · refine px_E_call hM rfl rfl rfl rfl (px_E_mono (by decide) (e_T_isDirectory_22 K N v17 s14 t15 _ hk21)) ?_
                refine px_blkif (c := v22 = 0) (t := 36) (e := 30) (L' := [some (.ref 22), some (.int a0), some (.int a1), some (.int v11), some (.int v17), none]) (S' := []) (w' := px_w K s19 t20) (q := []) 1 hM rfl trivial (fun hc24 => ?_) (fun hc24 => ?_)
                · rw [if_pos hc24] at h
                  refine px_blk (i' := 38) (L' := [some (.ref 22), some (.int a0), some (.int a1), some (.int v11), some (.int v17), some (.int (0 : Int32))]) (S' := []) (w' := px_w K s19 t20) (q := []) 2 hM rfl trivial ?_
                  rcases px_lp_some h with ⟨i25, vs26, s27, t28, hl29, h⟩ | ⟨z30, hl29, h⟩
                  · by_cases hi31 : i25 = 49
                    · subst hi31
                      rw [if_pos rfl] at h
                      have h9 := px_v0_some h
                      clear h
                      obtain ⟨rfl, h⟩ := h9
                      refine px_E_le (px_leC_L _ _ (by simp [px_leC, px_le1, Value.category])) (e_l_T_erase_22_38 K N a0 v11 v17 N (0 : Int32) s19 t20 _ hl29 _ _ ?_)
                      show px_E px_ET px_P 6 160 49 [some (.ref 22), some (.int a0), none, some (.int v11), some (.int v17), none] [] (px_w K s27 t28) _ _
                      refine px_blk (i' := 52) (L' := [some (.ref 22), some (.int a0), none, some (.int v11), some (.int v17), none]) (S' := [.int v17, .ref 22, .ref 22]) (w' := px_w K s27 t28) (q := []) 3 hM rfl trivial ?_
                      rcases px_bi_some h with ⟨v35, s32, t33, hk34, h⟩ | ⟨x36, s32, t33, hk34, h⟩
                      · refine px_E_call hM rfl rfl rfl rfl (px_E_mono (by decide) (e_T_indirectOf_22 K N v17 s27 t28 _ hk34)) ?_
                        rcases px_bv_some h with ⟨s37, t38, hk39, h⟩ | ⟨x41, s37, t38, hk39, h⟩
                        · refine px_E_call hM rfl rfl rfl rfl (px_E_mono (by decide) (e_T_giveBack_22 K N v35 s32 t33 _ hk39)) ?_
                          refine px_blk (i' := 56) (L' := [some (.ref 22), some (.int a0), none, some (.int v11), some (.int v17), some (.int (0 : Int32))]) (S' := []) (w' := px_w K s37 t38) (q := []) 2 hM rfl trivial ?_
                          rcases px_lp_some h with ⟨i42, vs43, s44, t45, hl46, h⟩ | ⟨z47, hl46, h⟩
                          · by_cases hi48 : i42 = 66
                            · subst hi48
                              rw [if_pos rfl] at h
                              have h9 := px_v0_some h
                              clear h
                              obtain ⟨rfl, h⟩ := h9
                              refine e_l_T_erase_22_56 K N a0 v11 v17 N (0 : Int32) s37 t38 _ hl46 _ _ ?_
                              show px_E px_ET px_P 6 160 66 [some (.ref 22), some (.int a0), none, some (.int v11), none, none] [] (px_w K s44 t45) _ _
                              refine px_blk (i' := 71) (L' := [some (.ref 22), some (.int a0), none, some (.int v11), none, none]) (S' := [.int (0 : Int32), .int (0 : Int32), .int v11, .int a0, .ref 22]) (w' := px_w K s44 t45) (q := []) 5 hM rfl trivial ?_
                              rcases px_bv_some h with ⟨s49, t50, hk51, h⟩ | ⟨x53, s49, t50, hk51, h⟩
                              · refine px_E_call hM rfl rfl rfl rfl (px_E_mono (by decide) (e_T_tellEntry_22 K N a0 v11 (0 : Int32) (0 : Int32) s44 t45 _ hk51)) ?_
                                refine px_blk (i' := 73) (L' := [some (.ref 22), some (.int a0), none, some (.int v11), none, none]) (S' := [.int (0 : Int32)]) (w' := px_w K s49 t50) (q := []) 1 hM rfl trivial ?_
                                cases h
                                exact px_E_ret hM rfl rfl rfl trivial
                              · cases h
                            · rw [if_neg hi48] at h
                              cases h
                          · cases h
                            exact e_l_T_erase_22_56 K N a0 v11 v17 N (0 : Int32) s37 t38 _ hl46 _ _ ⟨rfl, rfl⟩
                        · cases h
                      · cases h
                    · rw [if_neg hi31] at h
                      cases h
                  · cases h
                    exact px_E_le (px_leC_L _ _ (by simp [px_leC, px_le1, Value.category])) (e_l_T_erase_22_38 K N a0 v11 v17 N (0 : Int32) s19 t20 _ hl29 _ _ ⟨rfl, rfl⟩)
                · rw [if_neg hc24] at h
                  refine px_blk (i' := 32) (L' := [some (.ref 22), some (.int a0), some (.int a1), some (.int v11), some (.int v17), none]) (S' := [.int v17, .ref 22]) (w' := px_w K s19 t20) (q := []) 2 hM rfl trivial ?_
                  rcases px_bi_some h with ⟨v57, s54, t55, hk56, h⟩ | ⟨x58, s54, t55, hk56, h⟩
                  · refine px_E_call hM rfl rfl rfl rfl (px_E_mono (by decide) (e_T_namesIn_22 K N v17 s19 t20 _ hk56)) ?_
                    refine px_blkif (c := v57 ≤ 0) (t := 36) (e := 34) (L' := [some (.ref 22), some (.int a0), some (.int a1), some (.int v11), some (.int v17), none]) (S' := []) (w' := px_w K s54 t55) (q := []) 1 hM rfl trivial (fun hc59 => ?_) (fun hc59 => ?_)
                    · rw [if_pos hc59] at h
                      refine px_blk (i' := 38) (L' := [some (.ref 22), some (.int a0), some (.int a1), some (.int v11), some (.int v17), some (.int (0 : Int32))]) (S' := []) (w' := px_w K s54 t55) (q := []) 2 hM rfl trivial ?_
                      rcases px_lp_some h with ⟨i60, vs61, s62, t63, hl64, h⟩ | ⟨z65, hl64, h⟩
                      · by_cases hi66 : i60 = 49
                        · subst hi66
                          rw [if_pos rfl] at h
                          have h9 := px_v0_some h
                          clear h
                          obtain ⟨rfl, h⟩ := h9
                          refine px_E_le (px_leC_L _ _ (by simp [px_leC, px_le1, Value.category])) (e_l_T_erase_22_38 K N a0 v11 v17 N (0 : Int32) s54 t55 _ hl64 _ _ ?_)
                          show px_E px_ET px_P 6 160 49 [some (.ref 22), some (.int a0), none, some (.int v11), some (.int v17), none] [] (px_w K s62 t63) _ _
                          refine px_blk (i' := 52) (L' := [some (.ref 22), some (.int a0), none, some (.int v11), some (.int v17), none]) (S' := [.int v17, .ref 22, .ref 22]) (w' := px_w K s62 t63) (q := []) 3 hM rfl trivial ?_
                          rcases px_bi_some h with ⟨v70, s67, t68, hk69, h⟩ | ⟨x71, s67, t68, hk69, h⟩
                          · refine px_E_call hM rfl rfl rfl rfl (px_E_mono (by decide) (e_T_indirectOf_22 K N v17 s62 t63 _ hk69)) ?_
                            rcases px_bv_some h with ⟨s72, t73, hk74, h⟩ | ⟨x76, s72, t73, hk74, h⟩
                            · refine px_E_call hM rfl rfl rfl rfl (px_E_mono (by decide) (e_T_giveBack_22 K N v70 s67 t68 _ hk74)) ?_
                              refine px_blk (i' := 56) (L' := [some (.ref 22), some (.int a0), none, some (.int v11), some (.int v17), some (.int (0 : Int32))]) (S' := []) (w' := px_w K s72 t73) (q := []) 2 hM rfl trivial ?_
                              rcases px_lp_some h with ⟨i77, vs78, s79, t80, hl81, h⟩ | ⟨z82, hl81, h⟩
                              · by_cases hi83 : i77 = 66
                                · subst hi83
                                  rw [if_pos rfl] at h
                                  have h9 := px_v0_some h
                                  clear h
                                  obtain ⟨rfl, h⟩ := h9
                                  refine e_l_T_erase_22_56 K N a0 v11 v17 N (0 : Int32) s72 t73 _ hl81 _ _ ?_
                                  show px_E px_ET px_P 6 160 66 [some (.ref 22), some (.int a0), none, some (.int v11), none, none] [] (px_w K s79 t80) _ _
                                  refine px_blk (i' := 71) (L' := [some (.ref 22), some (.int a0), none, some (.int v11), none, none]) (S' := [.int (0 : Int32), .int (0 : Int32), .int v11, .int a0, .ref 22]) (w' := px_w K s79 t80) (q := []) 5 hM rfl trivial ?_
                                  rcases px_bv_some h with ⟨s84, t85, hk86, h⟩ | ⟨x88, s84, t85, hk86, h⟩
                                  · refine px_E_call hM rfl rfl rfl rfl (px_E_mono (by decide) (e_T_tellEntry_22 K N a0 v11 (0 : Int32) (0 : Int32) s79 t80 _ hk86)) ?_
                                    refine px_blk (i' := 73) (L' := [some (.ref 22), some (.int a0), none, some (.int v11), none, none]) (S' := [.int (0 : Int32)]) (w' := px_w K s84 t85) (q := []) 1 hM rfl trivial ?_
                                    cases h
                                    exact px_E_ret hM rfl rfl rfl trivial
                                  · cases h
                                · rw [if_neg hi83] at h
                                  cases h
                              · cases h
                                exact e_l_T_erase_22_56 K N a0 v11 v17 N (0 : Int32) s72 t73 _ hl81 _ _ ⟨rfl, rfl⟩
                            · cases h
                          · cases h
                        · rw [if_neg hi66] at h
                          cases h
                      · cases h
                        exact px_E_le (px_leC_L _ _ (by simp [px_leC, px_le1, Value.category])) (e_l_T_erase_22_38 K N a0 v11 v17 N (0 : Int32) s54 t55 _ hl64 _ _ ⟨rfl, rfl⟩)
                    · rw [if_neg hc59] at h
                      refine px_blk (i' := 35) (L' := [some (.ref 22), some (.int a0), some (.int a1), some (.int v11), some (.int v17), none]) (S' := [.int (-3 : Int32)]) (w' := px_w K s54 t55) (q := []) 1 hM rfl trivial ?_
                      cases h
                      exact px_E_ret hM rfl rfl rfl trivial
                  · cases h
              · cases h
            · cases h
          · rw [if_neg hc13] at h
            refine px_blk (i' := 19) (L' := [some (.ref 22), some (.int a0), some (.int a1), some (.int v11), none, none]) (S' := [.int (-1 : Int32)]) (w' := px_w K s8 t9) (q := []) 1 hM rfl trivial ?_
            cases h
            exact px_E_ret hM rfl rfl rfl trivial
        · cases h
      · rw [if_neg hc7] at h
        refine px_blkif (c := 0 ≤ (-1 : Int32)) (t := 20) (e := 18) (L' := [some (.ref 22), some (.int a0), some (.int a1), some (.int (-1 : Int32)), none, none]) (S' := []) (w' := px_w K s1 t2) (q := []) 5 hM rfl trivial (fun hc89 => ?_) (fun hc89 => ?_)
        · rw [if_pos hc89] at h
          refine px_blk (i' := 24) (L' := [some (.ref 22), some (.int a0), some (.int a1), some (.int (-1 : Int32)), none, none]) (S' := [.int (1 : Int32), .int (-1 : Int32), .int a0, .ref 22]) (w' := px_w K s1 t2) (q := []) 4 hM rfl trivial ?_
          rcases px_bi_some h with ⟨v93, s90, t91, hk92, h⟩ | ⟨x94, s90, t91, hk92, h⟩
          · refine px_E_call hM rfl rfl rfl rfl (px_E_mono (by decide) (e_T_entryWord_22 K N a0 (-1 : Int32) (1 : Int32) s1 t2 _ hk92)) ?_
            refine px_blk (i' := 28) (L' := [some (.ref 22), some (.int a0), some (.int a1), some (.int (-1 : Int32)), some (.int v93), none]) (S' := [.int v93, .ref 22]) (w' := px_w K s90 t91) (q := []) 3 hM rfl trivial ?_
            rcases px_bi_some h with ⟨v98, s95, t96, hk97, h⟩ | ⟨x99, s95, t96, hk97, h⟩
            · refine px_E_call hM rfl rfl rfl rfl (px_E_mono (by decide) (e_T_isDirectory_22 K N v93 s90 t91 _ hk97)) ?_
              refine px_blkif (c := v98 = 0) (t := 36) (e := 30) (L' := [some (.ref 22), some (.int a0), some (.int a1), some (.int (-1 : Int32)), some (.int v93), none]) (S' := []) (w' := px_w K s95 t96) (q := []) 1 hM rfl trivial (fun hc100 => ?_) (fun hc100 => ?_)
              · rw [if_pos hc100] at h
                refine px_blk (i' := 38) (L' := [some (.ref 22), some (.int a0), some (.int a1), some (.int (-1 : Int32)), some (.int v93), some (.int (0 : Int32))]) (S' := []) (w' := px_w K s95 t96) (q := []) 2 hM rfl trivial ?_
                rcases px_lp_some h with ⟨i101, vs102, s103, t104, hl105, h⟩ | ⟨z106, hl105, h⟩
                · by_cases hi107 : i101 = 49
                  · subst hi107
                    rw [if_pos rfl] at h
                    have h9 := px_v0_some h
                    clear h
                    obtain ⟨rfl, h⟩ := h9
                    refine px_E_le (px_leC_L _ _ (by simp [px_leC, px_le1, Value.category])) (e_l_T_erase_22_38 K N a0 (-1 : Int32) v93 N (0 : Int32) s95 t96 _ hl105 _ _ ?_)
                    show px_E px_ET px_P 6 160 49 [some (.ref 22), some (.int a0), none, some (.int (-1 : Int32)), some (.int v93), none] [] (px_w K s103 t104) _ _
                    refine px_blk (i' := 52) (L' := [some (.ref 22), some (.int a0), none, some (.int (-1 : Int32)), some (.int v93), none]) (S' := [.int v93, .ref 22, .ref 22]) (w' := px_w K s103 t104) (q := []) 3 hM rfl trivial ?_
                    rcases px_bi_some h with ⟨v111, s108, t109, hk110, h⟩ | ⟨x112, s108, t109, hk110, h⟩
                    · refine px_E_call hM rfl rfl rfl rfl (px_E_mono (by decide) (e_T_indirectOf_22 K N v93 s103 t104 _ hk110)) ?_
                      rcases px_bv_some h with ⟨s113, t114, hk115, h⟩ | ⟨x117, s113, t114, hk115, h⟩
                      · refine px_E_call hM rfl rfl rfl rfl (px_E_mono (by decide) (e_T_giveBack_22 K N v111 s108 t109 _ hk115)) ?_
                        refine px_blk (i' := 56) (L' := [some (.ref 22), some (.int a0), none, some (.int (-1 : Int32)), some (.int v93), some (.int (0 : Int32))]) (S' := []) (w' := px_w K s113 t114) (q := []) 2 hM rfl trivial ?_
                        rcases px_lp_some h with ⟨i118, vs119, s120, t121, hl122, h⟩ | ⟨z123, hl122, h⟩
                        · by_cases hi124 : i118 = 66
                          · subst hi124
                            rw [if_pos rfl] at h
                            have h9 := px_v0_some h
                            clear h
                            obtain ⟨rfl, h⟩ := h9
                            refine e_l_T_erase_22_56 K N a0 (-1 : Int32) v93 N (0 : Int32) s113 t114 _ hl122 _ _ ?_
                            show px_E px_ET px_P 6 160 66 [some (.ref 22), some (.int a0), none, some (.int (-1 : Int32)), none, none] [] (px_w K s120 t121) _ _
                            refine px_blk (i' := 71) (L' := [some (.ref 22), some (.int a0), none, some (.int (-1 : Int32)), none, none]) (S' := [.int (0 : Int32), .int (0 : Int32), .int (-1 : Int32), .int a0, .ref 22]) (w' := px_w K s120 t121) (q := []) 5 hM rfl trivial ?_
                            rcases px_bv_some h with ⟨s125, t126, hk127, h⟩ | ⟨x129, s125, t126, hk127, h⟩
                            · refine px_E_call hM rfl rfl rfl rfl (px_E_mono (by decide) (e_T_tellEntry_22 K N a0 (-1 : Int32) (0 : Int32) (0 : Int32) s120 t121 _ hk127)) ?_
                              refine px_blk (i' := 73) (L' := [some (.ref 22), some (.int a0), none, some (.int (-1 : Int32)), none, none]) (S' := [.int (0 : Int32)]) (w' := px_w K s125 t126) (q := []) 1 hM rfl trivial ?_
                              cases h
                              exact px_E_ret hM rfl rfl rfl trivial
                            · cases h
                          · rw [if_neg hi124] at h
                            cases h
                        · cases h
                          exact e_l_T_erase_22_56 K N a0 (-1 : Int32) v93 N (0 : Int32) s113 t114 _ hl122 _ _ ⟨rfl, rfl⟩
                      · cases h
                    · cases h
                  · rw [if_neg hi107] at h
                    cases h
                · cases h
                  exact px_E_le (px_leC_L _ _ (by simp [px_leC, px_le1, Value.category])) (e_l_T_erase_22_38 K N a0 (-1 : Int32) v93 N (0 : Int32) s95 t96 _ hl105 _ _ ⟨rfl, rfl⟩)
              · rw [if_neg hc100] at h
                refine px_blk (i' := 32) (L' := [some (.ref 22), some (.int a0), some (.int a1), some (.int (-1 : Int32)), some (.int v93), none]) (S' := [.int v93, .ref 22]) (w' := px_w K s95 t96) (q := []) 2 hM rfl trivial ?_
                rcases px_bi_some h with ⟨v133, s130, t131, hk132, h⟩ | ⟨x134, s130, t131, hk132, h⟩
                · refine px_E_call hM rfl rfl rfl rfl (px_E_mono (by decide) (e_T_namesIn_22 K N v93 s95 t96 _ hk132)) ?_
                  refine px_blkif (c := v133 ≤ 0) (t := 36) (e := 34) (L' := [some (.ref 22), some (.int a0), some (.int a1), some (.int (-1 : Int32)), some (.int v93), none]) (S' := []) (w' := px_w K s130 t131) (q := []) 1 hM rfl trivial (fun hc135 => ?_) (fun hc135 => ?_)
                  · rw [if_pos hc135] at h
                    refine px_blk (i' := 38) (L' := [some (.ref 22), some (.int a0), some (.int a1), some (.int (-1 : Int32)), some (.int v93), some (.int (0 : Int32))]) (S' := []) (w' := px_w K s130 t131) (q := []) 2 hM rfl trivial ?_
                    rcases px_lp_some h with ⟨i136, vs137, s138, t139, hl140, h⟩ | ⟨z141, hl140, h⟩
                    · by_cases hi142 : i136 = 49
                      · subst hi142
                        rw [if_pos rfl] at h
                        have h9 := px_v0_some h
                        clear h
                        obtain ⟨rfl, h⟩ := h9
                        refine px_E_le (px_leC_L _ _ (by simp [px_leC, px_le1, Value.category])) (e_l_T_erase_22_38 K N a0 (-1 : Int32) v93 N (0 : Int32) s130 t131 _ hl140 _ _ ?_)
                        show px_E px_ET px_P 6 160 49 [some (.ref 22), some (.int a0), none, some (.int (-1 : Int32)), some (.int v93), none] [] (px_w K s138 t139) _ _
                        refine px_blk (i' := 52) (L' := [some (.ref 22), some (.int a0), none, some (.int (-1 : Int32)), some (.int v93), none]) (S' := [.int v93, .ref 22, .ref 22]) (w' := px_w K s138 t139) (q := []) 3 hM rfl trivial ?_
                        rcases px_bi_some h with ⟨v146, s143, t144, hk145, h⟩ | ⟨x147, s143, t144, hk145, h⟩
                        · refine px_E_call hM rfl rfl rfl rfl (px_E_mono (by decide) (e_T_indirectOf_22 K N v93 s138 t139 _ hk145)) ?_
                          rcases px_bv_some h with ⟨s148, t149, hk150, h⟩ | ⟨x152, s148, t149, hk150, h⟩
                          · refine px_E_call hM rfl rfl rfl rfl (px_E_mono (by decide) (e_T_giveBack_22 K N v146 s143 t144 _ hk150)) ?_
                            refine px_blk (i' := 56) (L' := [some (.ref 22), some (.int a0), none, some (.int (-1 : Int32)), some (.int v93), some (.int (0 : Int32))]) (S' := []) (w' := px_w K s148 t149) (q := []) 2 hM rfl trivial ?_
                            rcases px_lp_some h with ⟨i153, vs154, s155, t156, hl157, h⟩ | ⟨z158, hl157, h⟩
                            · by_cases hi159 : i153 = 66
                              · subst hi159
                                rw [if_pos rfl] at h
                                have h9 := px_v0_some h
                                clear h
                                obtain ⟨rfl, h⟩ := h9
                                refine e_l_T_erase_22_56 K N a0 (-1 : Int32) v93 N (0 : Int32) s148 t149 _ hl157 _ _ ?_
                                show px_E px_ET px_P 6 160 66 [some (.ref 22), some (.int a0), none, some (.int (-1 : Int32)), none, none] [] (px_w K s155 t156) _ _
                                refine px_blk (i' := 71) (L' := [some (.ref 22), some (.int a0), none, some (.int (-1 : Int32)), none, none]) (S' := [.int (0 : Int32), .int (0 : Int32), .int (-1 : Int32), .int a0, .ref 22]) (w' := px_w K s155 t156) (q := []) 5 hM rfl trivial ?_
                                rcases px_bv_some h with ⟨s160, t161, hk162, h⟩ | ⟨x164, s160, t161, hk162, h⟩
                                · refine px_E_call hM rfl rfl rfl rfl (px_E_mono (by decide) (e_T_tellEntry_22 K N a0 (-1 : Int32) (0 : Int32) (0 : Int32) s155 t156 _ hk162)) ?_
                                  refine px_blk (i' := 73) (L' := [some (.ref 22), some (.int a0), none, some (.int (-1 : Int32)), none, none]) (S' := [.int (0 : Int32)]) (w' := px_w K s160 t161) (q := []) 1 hM rfl trivial ?_
                                  cases h
                                  exact px_E_ret hM rfl rfl rfl trivial
                                · cases h
                              · rw [if_neg hi159] at h
                                cases h
                            · cases h
                              exact e_l_T_erase_22_56 K N a0 (-1 : Int32) v93 N (0 : Int32) s148 t149 _ hl157 _ _ ⟨rfl, rfl⟩
                          · cases h
                        · cases h
                      · rw [if_neg hi142] at h
                        cases h
                    · cases h
                      exact px_E_le (px_leC_L _ _ (by simp [px_leC, px_le1, Value.category])) (e_l_T_erase_22_38 K N a0 (-1 : Int32) v93 N (0 : Int32) s130 t131 _ hl140 _ _ ⟨rfl, rfl⟩)
                  · rw [if_neg hc135] at h
                    refine px_blk (i' := 35) (L' := [some (.ref 22), some (.int a0), some (.int a1), some (.int (-1 : Int32)), some (.int v93), none]) (S' := [.int (-3 : Int32)]) (w' := px_w K s130 t131) (q := []) 1 hM rfl trivial ?_
                    cases h
                    exact px_E_ret hM rfl rfl rfl trivial
                · cases h
            · cases h
          · cases h
        · rw [if_neg hc89] at h
          refine px_blk (i' := 19) (L' := [some (.ref 22), some (.int a0), some (.int a1), some (.int (-1 : Int32)), none, none]) (S' := [.int (-1 : Int32)]) (w' := px_w K s1 t2) (q := []) 1 hM rfl trivial ?_
          cases h
          exact px_E_ret hM rfl rfl rfl trivial
    · rw [if_neg hc6] at h
      refine px_blk (i' := 5) (L' := [some (.ref 22), some (.int a0), some (.int a1), none, none, none]) (S' := [.int (-4 : Int32)]) (w' := px_w K s1 t2) (q := []) 1 hM rfl trivial ?_
      cases h
      exact px_E_ret hM rfl rfl rfl trivial
  · cases h
noncomputable def f_E_remove_1 (K : px_K) (N : Nat) (a0 : Int32) (a1 : Int32) (s : px_S) (t : px_W) : Option px_Res :=
  (if ¬ (s.1 0) = 0 then (px_bv (f_T_commitAbove_22 K N (7 : Int32) s t) (fun s2 t3 => (px_bi (f_T_erase_22 K N a0 a1 s2 t3) (fun v10 s7 t8 => (some (.inl (some (.int v10)), s7, t8))) (fun x11 s7 t8 => none))) (fun x6 s2 t3 => (px_gd (px_isx t3 x6 7) (px_bi (f_E_goDown_1 K N (s2.2.1 2) s2 t3) (fun v15 s12 t13 => (some (.inl (some (.int v15)), s12, t13))) (fun x16 s12 t13 => none))))) else (some (.inl (some (.int (-9 : Int32))), s, t)))
set_option maxRecDepth 100000 in
theorem e_E_remove_1 (K : px_K) (N : Nat) (a0 : Int32) (a1 : Int32) (s : px_S) (t : px_W) (r : px_Res) (h : f_E_remove_1 K N a0 a1 s t = some r) : px_E px_ET px_P 15 6 0 (px_ent 4 [.ref 1, .int a0, .int a1]) [] (px_w K s t) r.1 (px_w K r.2.1 r.2.2) := by
  have hM : px_P[6]? = some pm_E_remove := rfl
  unfold f_E_remove_1 at h
  refine px_blkif (c := ¬ (s.1 0) = 0) (t := 6) (e := 4) (L' := [some (.ref 1), some (.int a0), some (.int a1), none]) (S' := []) (w' := px_w K s t) (q := []) 4 hM rfl trivial (fun hc1 => ?_) (fun hc1 => ?_)
  · rw [if_pos hc1] at h
    refine px_blk (i' := 9) (L' := [some (.ref 1), some (.int a0), some (.int a1), none]) (S' := [.int (7 : Int32), .ref 22]) (w' := px_w K s t) (q := []) 3 hM rfl trivial ?_
    rcases px_bv_some h with ⟨s2, t3, hk4, h⟩ | ⟨x6, s2, t3, hk4, h⟩
    · refine px_E_call hM rfl rfl rfl rfl (px_E_mono (by decide) (e_T_commitAbove_22 K N (7 : Int32) s t _ hk4)) ?_
      refine px_blk (i' := 14) (L' := [some (.ref 1), some (.int a0), some (.int a1), none]) (S' := [.int a1, .int a0, .ref 22]) (w' := px_w K s2 t3) (q := []) 4 hM rfl trivial ?_
      rcases px_bi_some h with ⟨v10, s7, t8, hk9, h⟩ | ⟨x11, s7, t8, hk9, h⟩
      · refine px_E_call hM rfl rfl rfl rfl (px_E_mono (by decide) (e_T_erase_22 K N a0 a1 s2 t3 _ hk9)) ?_
        cases h
        exact px_E_ret hM rfl rfl rfl trivial
      · cases h
    · obtain ⟨hx17, h⟩ := px_gd_some h
      refine px_E_callC hM rfl rfl rfl rfl (px_E_mono (by decide) (e_T_commitAbove_22 K N (7 : Int32) s t _ hk4)) (px_hnd_of rfl rfl hx17) ?_
      refine px_blk (i' := 21) (L' := [some (.ref 1), some (.int a0), some (.int a1), some (.ref (x6))]) (S' := [.long (s2.2.1 2), .ref 1]) (w' := px_w K s2 t3) (q := []) 5 hM rfl trivial ?_
      rcases px_bi_some h with ⟨v15, s12, t13, hk14, h⟩ | ⟨x16, s12, t13, hk14, h⟩
      · refine px_E_call hM rfl rfl rfl rfl (px_E_mono (by decide) (e_E_goDown_1 K N (s2.2.1 2) s2 t3 _ hk14)) ?_
        cases h
        exact px_E_ret hM rfl rfl rfl trivial
      · cases h
  · rw [if_neg hc1] at h
    refine px_blk (i' := 5) (L' := [some (.ref 1), some (.int a0), some (.int a1), none]) (S' := [.int (-9 : Int32)]) (w' := px_w K s t) (q := []) 1 hM rfl trivial ?_
    cases h
    exact px_E_ret hM rfl rfl rfl trivial
noncomputable def l_T_parentOf_22_17 (K : px_K) (N : Nat) (n : Nat) (u1 : Int32) (u2 : Int32) (u3 : Int32) (m4 : Int32) (s : px_S) (t : px_W) : Option px_LO := match n with
  | 0 => none
  | n + 1 => (if u3 ≤ m4 then (some (.inl (37, [], s, t))) else (px_bi (f_T_entryWord_22 K N u2 m4 (0 : Int32) s t) (fun v5 s2 t3 => (if v5 = 0 then (l_T_parentOf_22_17 K N n u1 u2 u3 (m4 + (1 : Int32)) s2 t3) else (px_bi (f_T_entryWord_22 K N u2 m4 (1 : Int32) s2 t3) (fun v11 s8 t9 => (if ¬ v11 = u1 then (l_T_parentOf_22_17 K N n u1 u2 u3 (m4 + (1 : Int32)) s8 t9) else (some (.inl (33, [], s8, t9))))) (fun x12 s8 t9 => none)))) (fun x6 s2 t3 => none)))
def a_l_T_parentOf_22_17 (K : px_K) (u1 : Int32) (u2 : Int32) (u3 : Int32) (z : px_LO) (o : Option Value ⊕ Nat) (w2 : px_W) : Prop := match z with
  | .inr (o', s', t') => o = o' ∧ w2 = px_w K s' t'
  | .inl (33, [], s', t') => px_E px_ET px_P 5 163 33 [none, none, some (.int u2), none, none] [] (px_w K s' t') o w2
  | .inl (37, [], s', t') => px_E px_ET px_P 5 163 37 [some (.ref 22), some (.int u1), some (.int u2), none, none] [] (px_w K s' t') o w2
  | _ => False
noncomputable def l_T_parentOf_22_2 (K : px_K) (N : Nat) (n : Nat) (u1 : Int32) (m2 : Int32) (s : px_S) (t : px_W) : Option px_LO := match n with
  | 0 => none
  | n + 1 => (if (24 : Int32) ≤ m2 then (some (.inl (39, [], s, t))) else (px_bi (f_T_isDirectory_22 K N m2 s t) (fun v5 s2 t3 => (if v5 = 0 then (px_lp (l_T_parentOf_22_17 K N N u1 m2 (0 : Int32) (0 : Int32) s2 t3) (fun i8 vs9 s10 t11 => (if i8 = 33 then (px_v0 vs9 (some (.inl (33, [m2], s10, t11)))) else (if i8 = 37 then (px_v0 vs9 (l_T_parentOf_22_2 K N n u1 (m2 + (1 : Int32)) s10 t11)) else none))) (fun z13 => some (.inr z13))) else (px_bi (f_T_placesOf_22 K N m2 s2 t3) (fun v19 s16 t17 => (px_lp (l_T_parentOf_22_17 K N N u1 m2 v19 (0 : Int32) s16 t17) (fun i21 vs22 s23 t24 => (if i21 = 33 then (px_v0 vs22 (some (.inl (33, [m2], s23, t24)))) else (if i21 = 37 then (px_v0 vs22 (l_T_parentOf_22_2 K N n u1 (m2 + (1 : Int32)) s23 t24)) else none))) (fun z26 => some (.inr z26)))) (fun x20 s16 t17 => none)))) (fun x6 s2 t3 => none)))
def a_l_T_parentOf_22_2 (K : px_K) (u1 : Int32) (z : px_LO) (o : Option Value ⊕ Nat) (w2 : px_W) : Prop := match z with
  | .inr (o', s', t') => o = o' ∧ w2 = px_w K s' t'
  | .inl (33, [y2], s', t') => px_E px_ET px_P 5 163 33 [none, none, some (.int y2), none, none] [] (px_w K s' t') o w2
  | .inl (39, [], s', t') => px_E px_ET px_P 5 163 39 [none, none, none, none, none] [] (px_w K s' t') o w2
  | _ => False
set_option maxRecDepth 100000 in
theorem e_l_T_parentOf_22_17 (K : px_K) (N : Nat) (u1 : Int32) (u2 : Int32) (u3 : Int32) : ∀ (n : Nat) (m4 : Int32) (s : px_S) (t : px_W) (z : px_LO), l_T_parentOf_22_17 K N n u1 u2 u3 m4 s t = some z → ∀ (o : Option Value ⊕ Nat) (w2 : px_W), a_l_T_parentOf_22_17 K u1 u2 u3 z o w2 → px_E px_ET px_P 5 163 17 [some (.ref 22), some (.int u1), some (.int u2), some (.int u3), some (.int m4)] [] (px_w K s t) o w2 := by
  have hM : px_P[163]? = some pm_T_parentOf := rfl
  intro n
  induction n with
  | zero => intro m4 s t z h; cases h
  | succ n ih =>
    intro m4 s t z h o w2 ha
    unfold l_T_parentOf_22_17 at h
    refine px_blkif (c := u3 ≤ m4) (t := 37) (e := 20) (L' := [some (.ref 22), some (.int u1), some (.int u2), some (.int u3), some (.int m4)]) (S' := []) (w' := px_w K s t) (q := []) 3 hM rfl trivial (fun hc1 => ?_) (fun hc1 => ?_)
    · rw [if_pos hc1] at h
      cases h
      exact px_E_le (px_leC_L _ _ (by simp [px_leC, px_le1, Value.category])) ha
    · rw [if_neg hc1] at h
      refine px_blk (i' := 24) (L' := [some (.ref 22), some (.int u1), some (.int u2), some (.int u3), some (.int m4)]) (S' := [.int (0 : Int32), .int m4, .int u2, .ref 22]) (w' := px_w K s t) (q := []) 4 hM rfl trivial ?_
      rcases px_bi_some h with ⟨v5, s2, t3, hk4, h⟩ | ⟨x6, s2, t3, hk4, h⟩
      · refine px_E_call hM rfl rfl rfl rfl (px_E_mono (by decide) (e_T_entryWord_22 K N u2 m4 (0 : Int32) s t _ hk4)) ?_
        refine px_blkif (c := v5 = 0) (t := 35) (e := 26) (L' := [some (.ref 22), some (.int u1), some (.int u2), some (.int u3), some (.int m4)]) (S' := []) (w' := px_w K s2 t3) (q := []) 1 hM rfl trivial (fun hc7 => ?_) (fun hc7 => ?_)
        · rw [if_pos hc7] at h
          refine px_blk (i' := 17) (L' := [some (.ref 22), some (.int u1), some (.int u2), some (.int u3), some (.int (m4 + (1 : Int32)))]) (S' := []) (w' := px_w K s2 t3) (q := []) 2 hM rfl trivial ?_
          exact ih (m4 + (1 : Int32)) s2 t3 z h o w2 ha
        · rw [if_neg hc7] at h
          refine px_blk (i' := 30) (L' := [some (.ref 22), some (.int u1), some (.int u2), some (.int u3), some (.int m4)]) (S' := [.int (1 : Int32), .int m4, .int u2, .ref 22]) (w' := px_w K s2 t3) (q := []) 4 hM rfl trivial ?_
          rcases px_bi_some h with ⟨v11, s8, t9, hk10, h⟩ | ⟨x12, s8, t9, hk10, h⟩
          · refine px_E_call hM rfl rfl rfl rfl (px_E_mono (by decide) (e_T_entryWord_22 K N u2 m4 (1 : Int32) s2 t3 _ hk10)) ?_
            refine px_blkif (c := ¬ v11 = u1) (t := 35) (e := 33) (L' := [some (.ref 22), some (.int u1), some (.int u2), some (.int u3), some (.int m4)]) (S' := []) (w' := px_w K s8 t9) (q := []) 2 hM rfl trivial (fun hc13 => ?_) (fun hc13 => ?_)
            · rw [if_pos hc13] at h
              refine px_blk (i' := 17) (L' := [some (.ref 22), some (.int u1), some (.int u2), some (.int u3), some (.int (m4 + (1 : Int32)))]) (S' := []) (w' := px_w K s8 t9) (q := []) 2 hM rfl trivial ?_
              exact ih (m4 + (1 : Int32)) s8 t9 z h o w2 ha
            · rw [if_neg hc13] at h
              cases h
              exact px_E_le (px_leC_L _ _ (by simp [px_leC, px_le1, Value.category])) ha
          · cases h
      · cases h
set_option maxRecDepth 100000 in
theorem e_l_T_parentOf_22_2 (K : px_K) (N : Nat) (u1 : Int32) : ∀ (n : Nat) (m2 : Int32) (s : px_S) (t : px_W) (z : px_LO), l_T_parentOf_22_2 K N n u1 m2 s t = some z → ∀ (o : Option Value ⊕ Nat) (w2 : px_W), a_l_T_parentOf_22_2 K u1 z o w2 → px_E px_ET px_P 5 163 2 [some (.ref 22), some (.int u1), some (.int m2), none, none] [] (px_w K s t) o w2 := by
  have hM : px_P[163]? = some pm_T_parentOf := rfl
  intro n
  induction n with
  | zero => intro m2 s t z h; cases h
  | succ n ih =>
    intro m2 s t z h o w2 ha
    unfold l_T_parentOf_22_2 at h
    refine px_blkif (c := (24 : Int32) ≤ m2) (t := 39) (e := 5) (L' := [some (.ref 22), some (.int u1), some (.int m2), none, none]) (S' := []) (w' := px_w K s t) (q := []) 3 hM rfl trivial (fun hc1 => ?_) (fun hc1 => ?_)
    · rw [if_pos hc1] at h
      cases h
      exact px_E_le (px_leC_L _ _ (by simp [px_leC, px_le1, Value.category])) ha
    · rw [if_neg hc1] at h
      refine px_blk (i' := 7) (L' := [some (.ref 22), some (.int u1), some (.int m2), none, none]) (S' := [.int m2, .ref 22]) (w' := px_w K s t) (q := []) 2 hM rfl trivial ?_
      rcases px_bi_some h with ⟨v5, s2, t3, hk4, h⟩ | ⟨x6, s2, t3, hk4, h⟩
      · refine px_E_call hM rfl rfl rfl rfl (px_E_mono (by decide) (e_T_isDirectory_22 K N m2 s t _ hk4)) ?_
        refine px_blkif (c := v5 = 0) (t := 13) (e := 9) (L' := [some (.ref 22), some (.int u1), some (.int m2), none, none]) (S' := []) (w' := px_w K s2 t3) (q := []) 1 hM rfl trivial (fun hc7 => ?_) (fun hc7 => ?_)
        · rw [if_pos hc7] at h
          refine px_blk (i' := 17) (L' := [some (.ref 22), some (.int u1), some (.int m2), some (.int (0 : Int32)), some (.int (0 : Int32))]) (S' := []) (w' := px_w K s2 t3) (q := []) 4 hM rfl trivial ?_
          rcases px_lp_some h with ⟨i8, vs9, s10, t11, hl12, h⟩ | ⟨z13, hl12, h⟩
          · by_cases hi14 : i8 = 33
            · subst hi14
              rw [if_pos rfl] at h
              have h9 := px_v0_some h
              clear h
              obtain ⟨rfl, h⟩ := h9
              refine e_l_T_parentOf_22_17 K N u1 m2 (0 : Int32) N (0 : Int32) s2 t3 _ hl12 _ _ ?_
              show px_E px_ET px_P 5 163 33 [none, none, some (.int m2), none, none] [] (px_w K s10 t11) _ _
              cases h
              exact px_E_le (px_leC_L _ _ (by simp [px_leC, px_le1, Value.category])) ha
            · rw [if_neg hi14] at h
              by_cases hi15 : i8 = 37
              · subst hi15
                rw [if_pos rfl] at h
                have h9 := px_v0_some h
                clear h
                obtain ⟨rfl, h⟩ := h9
                refine e_l_T_parentOf_22_17 K N u1 m2 (0 : Int32) N (0 : Int32) s2 t3 _ hl12 _ _ ?_
                show px_E px_ET px_P 5 163 37 [some (.ref 22), some (.int u1), some (.int m2), none, none] [] (px_w K s10 t11) _ _
                refine px_blk (i' := 2) (L' := [some (.ref 22), some (.int u1), some (.int (m2 + (1 : Int32))), none, none]) (S' := []) (w' := px_w K s10 t11) (q := []) 2 hM rfl trivial ?_
                exact ih (m2 + (1 : Int32)) s10 t11 z h o w2 ha
              · rw [if_neg hi15] at h
                cases h
          · cases h
            obtain ⟨rfl, rfl⟩ := ha
            exact e_l_T_parentOf_22_17 K N u1 m2 (0 : Int32) N (0 : Int32) s2 t3 _ hl12 _ _ ⟨rfl, rfl⟩
        · rw [if_neg hc7] at h
          refine px_blk (i' := 11) (L' := [some (.ref 22), some (.int u1), some (.int m2), none, none]) (S' := [.int m2, .ref 22]) (w' := px_w K s2 t3) (q := []) 2 hM rfl trivial ?_
          rcases px_bi_some h with ⟨v19, s16, t17, hk18, h⟩ | ⟨x20, s16, t17, hk18, h⟩
          · refine px_E_call hM rfl rfl rfl rfl (px_E_mono (by decide) (e_T_placesOf_22 K N m2 s2 t3 _ hk18)) ?_
            refine px_blk (i' := 17) (L' := [some (.ref 22), some (.int u1), some (.int m2), some (.int v19), some (.int (0 : Int32))]) (S' := []) (w' := px_w K s16 t17) (q := []) 4 hM rfl trivial ?_
            rcases px_lp_some h with ⟨i21, vs22, s23, t24, hl25, h⟩ | ⟨z26, hl25, h⟩
            · by_cases hi27 : i21 = 33
              · subst hi27
                rw [if_pos rfl] at h
                have h9 := px_v0_some h
                clear h
                obtain ⟨rfl, h⟩ := h9
                refine e_l_T_parentOf_22_17 K N u1 m2 v19 N (0 : Int32) s16 t17 _ hl25 _ _ ?_
                show px_E px_ET px_P 5 163 33 [none, none, some (.int m2), none, none] [] (px_w K s23 t24) _ _
                cases h
                exact px_E_le (px_leC_L _ _ (by simp [px_leC, px_le1, Value.category])) ha
              · rw [if_neg hi27] at h
                by_cases hi28 : i21 = 37
                · subst hi28
                  rw [if_pos rfl] at h
                  have h9 := px_v0_some h
                  clear h
                  obtain ⟨rfl, h⟩ := h9
                  refine e_l_T_parentOf_22_17 K N u1 m2 v19 N (0 : Int32) s16 t17 _ hl25 _ _ ?_
                  show px_E px_ET px_P 5 163 37 [some (.ref 22), some (.int u1), some (.int m2), none, none] [] (px_w K s23 t24) _ _
                  refine px_blk (i' := 2) (L' := [some (.ref 22), some (.int u1), some (.int (m2 + (1 : Int32))), none, none]) (S' := []) (w' := px_w K s23 t24) (q := []) 2 hM rfl trivial ?_
                  exact ih (m2 + (1 : Int32)) s23 t24 z h o w2 ha
                · rw [if_neg hi28] at h
                  cases h
            · cases h
              obtain ⟨rfl, rfl⟩ := ha
              exact e_l_T_parentOf_22_17 K N u1 m2 v19 N (0 : Int32) s16 t17 _ hl25 _ _ ⟨rfl, rfl⟩
          · cases h
      · cases h
noncomputable def f_T_parentOf_22 (K : px_K) (N : Nat) (a0 : Int32) (s : px_S) (t : px_W) : Option px_Res :=
  (px_lp (l_T_parentOf_22_2 K N N a0 (0 : Int32) s t) (fun i1 vs2 s3 t4 => (if i1 = 33 then (px_v1 vs2 (fun y7 => (some (.inl (some (.int y7)), s3, t4)))) else (if i1 = 39 then (px_v0 vs2 (some (.inl (some (.int (0 : Int32))), s3, t4))) else none))) (fun z6 => some z6))
set_option maxRecDepth 100000 in
theorem e_T_parentOf_22 (K : px_K) (N : Nat) (a0 : Int32) (s : px_S) (t : px_W) (r : px_Res) (h : f_T_parentOf_22 K N a0 s t = some r) : px_E px_ET px_P 5 163 0 (px_ent 5 [.ref 22, .int a0]) [] (px_w K s t) r.1 (px_w K r.2.1 r.2.2) := by
  have hM : px_P[163]? = some pm_T_parentOf := rfl
  unfold f_T_parentOf_22 at h
  refine px_blk (i' := 2) (L' := [some (.ref 22), some (.int a0), some (.int (0 : Int32)), none, none]) (S' := []) (w' := px_w K s t) (q := []) 2 hM rfl trivial ?_
  rcases px_lp_some h with ⟨i1, vs2, s3, t4, hl5, h⟩ | ⟨z6, hl5, h⟩
  · by_cases hi8 : i1 = 33
    · subst hi8
      rw [if_pos rfl] at h
      have h9 := px_v1_some h
      clear h
      obtain ⟨y7, rfl, h⟩ := h9
      refine e_l_T_parentOf_22_2 K N a0 N (0 : Int32) s t _ hl5 _ _ ?_
      show px_E px_ET px_P 5 163 33 [none, none, some (.int y7), none, none] [] (px_w K s3 t4) _ _
      refine px_blk (i' := 34) (L' := [none, none, some (.int y7), none, none]) (S' := [.int y7]) (w' := px_w K s3 t4) (q := []) 1 hM rfl trivial ?_
      cases h
      exact px_E_ret hM rfl rfl rfl trivial
    · rw [if_neg hi8] at h
      by_cases hi9 : i1 = 39
      · subst hi9
        rw [if_pos rfl] at h
        have h9 := px_v0_some h
        clear h
        obtain ⟨rfl, h⟩ := h9
        refine e_l_T_parentOf_22_2 K N a0 N (0 : Int32) s t _ hl5 _ _ ?_
        show px_E px_ET px_P 5 163 39 [none, none, none, none, none] [] (px_w K s3 t4) _ _
        refine px_blk (i' := 40) (L' := [none, none, none, none, none]) (S' := [.int (0 : Int32)]) (w' := px_w K s3 t4) (q := []) 1 hM rfl trivial ?_
        cases h
        exact px_E_ret hM rfl rfl rfl trivial
      · rw [if_neg hi9] at h
        cases h
  · cases h
    exact e_l_T_parentOf_22_2 K N a0 N (0 : Int32) s t _ hl5 _ _ ⟨rfl, rfl⟩
