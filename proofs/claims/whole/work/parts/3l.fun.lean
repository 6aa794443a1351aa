/-! THE METHODS AS FUNCTIONS (by program). -/
noncomputable def f_M_find2_28 (K : px_K) (N : Nat) (a0 : Int32) (a1 : Int32) (s : px_S) (t : px_W) : Option px_Res :=
  (px_let (sR s 25 (0 : Int32)) (fun s1 => (if ¬ (s1.1 29) = 0 then (px_bi (f_M_isKind_28 K N a0 (1 : Int32) s1 t) (fun v7 s4 t5 => (if ¬ v7 = 0 then (px_bi (f_M_placeOf_28 K N a0 a1 s4 t5) (fun v13 s10 t11 => (if 0 ≤ v13 then (px_bi (f_M_inodeAt_28 K N a0 v13 s10 t11) (fun v19 s16 t17 => (some (.inl (some (.int v19)), s16, t17))) (fun x20 s16 t17 => none)) else (some (.inl (some (.int (-1 : Int32))), s10, t11)))) (fun x14 s10 t11 => none)) else (some (.inl (some (.int (-4 : Int32))), s4, t5)))) (fun x8 s4 t5 => none)) else (some (.inl (some (.int (-9 : Int32))), s1, t)))))
set_option maxRecDepth 100000 in
theorem e_M_find2_28 (K : px_K) (N : Nat) (a0 : Int32) (a1 : Int32) (s : px_S) (t : px_W) (r : px_Res) (h : f_M_find2_28 K N a0 a1 s t = some r) : px_E px_ET px_P 6 77 0 (px_ent 4 [.ref 28, .int a0, .int a1]) [] (px_w K s t) r.1 (px_w K r.2.1 r.2.2) := by
  have hM : px_P[77]? = some pm_M_find2 := rfl
  unfold f_M_find2_28 at h
  refine px_blk (i' := 3) (L' := [some (.ref 28), some (.int a0), some (.int a1), none]) (S' := []) (w' := px_w K (sR s 25 (0 : Int32)) t) (q := []) 3 hM rfl trivial ?_
  obtain ⟨s1, hs2, h⟩ := px_let_some h
  rw [← hs2]
  refine px_blkif (c := ¬ (s1.1 29) = 0) (t := 8) (e := 6) (L' := [some (.ref 28), some (.int a0), some (.int a1), none]) (S' := []) (w' := px_w K s1 t) (q := []) 3 hM rfl trivial (fun hc3 => ?_) (fun hc3 => ?_)
  · rw [if_pos hc3] at h
    refine px_blk (i' := 11) (L' := [some (.ref 28), some (.int a0), some (.int a1), none]) (S' := [.int (1 : Int32), .int a0, .ref 28]) (w' := px_w K s1 t) (q := []) 3 hM rfl trivial ?_
    rcases px_bi_some h with ⟨v7, s4, t5, hk6, h⟩ | ⟨x8, s4, t5, hk6, h⟩
    · refine px_E_call hM rfl rfl rfl rfl (px_E_mono (by decide) (e_M_isKind_28 K N a0 (1 : Int32) s1 t _ hk6)) ?_
      refine px_blkif (c := ¬ v7 = 0) (t := 15) (e := 13) (L' := [some (.ref 28), some (.int a0), some (.int a1), none]) (S' := []) (w' := px_w K s4 t5) (q := []) 1 hM rfl trivial (fun hc9 => ?_) (fun hc9 => ?_)
      · rw [if_pos hc9] at h
        refine px_blk (i' := 18) (L' := [some (.ref 28), some (.int a0), some (.int a1), none]) (S' := [.int a1, .int a0, .ref 28]) (w' := px_w K s4 t5) (q := []) 3 hM rfl trivial ?_
        rcases px_bi_some h with ⟨v13, s10, t11, hk12, h⟩ | ⟨x14, s10, t11, hk12, h⟩
        · refine px_E_call hM rfl rfl rfl rfl (px_E_mono (by decide) (e_M_placeOf_28 K N a0 a1 s4 t5 _ hk12)) ?_
          refine px_blkif (c := 0 ≤ v13) (t := 24) (e := 22) (L' := [some (.ref 28), some (.int a0), some (.int a1), some (.int v13)]) (S' := []) (w' := px_w K s10 t11) (q := []) 3 hM rfl trivial (fun hc15 => ?_) (fun hc15 => ?_)
          · rw [if_pos hc15] at h
            refine px_blk (i' := 27) (L' := [some (.ref 28), some (.int a0), some (.int a1), some (.int v13)]) (S' := [.int v13, .int a0, .ref 28]) (w' := px_w K s10 t11) (q := []) 3 hM rfl trivial ?_
            rcases px_bi_some h with ⟨v19, s16, t17, hk18, h⟩ | ⟨x20, s16, t17, hk18, h⟩
            · refine px_E_call hM rfl rfl rfl rfl (px_E_mono (by decide) (e_M_inodeAt_28 K N a0 v13 s10 t11 _ hk18)) ?_
              cases h
              exact px_E_ret hM rfl rfl rfl trivial
            · cases h
          · rw [if_neg hc15] at h
            refine px_blk (i' := 28) (L' := [some (.ref 28), some (.int a0), some (.int a1), some (.int v13)]) (S' := [.int (-1 : Int32)]) (w' := px_w K s10 t11) (q := []) 2 hM rfl trivial ?_
            cases h
            exact px_E_ret hM rfl rfl rfl trivial
        · cases h
      · rw [if_neg hc9] at h
        refine px_blk (i' := 14) (L' := [some (.ref 28), some (.int a0), some (.int a1), none]) (S' := [.int (-4 : Int32)]) (w' := px_w K s4 t5) (q := []) 1 hM rfl trivial ?_
        cases h
        exact px_E_ret hM rfl rfl rfl trivial
    · cases h
  · rw [if_neg hc3] at h
    refine px_blk (i' := 7) (L' := [some (.ref 28), some (.int a0), some (.int a1), none]) (S' := [.int (-9 : Int32)]) (w' := px_w K s1 t) (q := []) 1 hM rfl trivial ?_
    cases h
    exact px_E_ret hM rfl rfl rfl trivial
noncomputable def f_M_fetch_28 (K : px_K) (N : Nat) (a0 : Int32) (s : px_S) (t : px_W) : Option px_Res :=
  (px_gd (vp_in a0 (K.2.2 41)) (if ¬ ((s.2.2.1 41) a0.toNatClampNeg) = 0 then (some (.inl none, s, t)) else (px_gd (vp_in a0 (K.2.2 42)) (if ¬ ((s.2.2.1 42) a0.toNatClampNeg) = 0 then (some (.inl none, s, t)) else (px_bv (f_M_readVolume_28 K N a0 s t) (fun s5 t6 => (some (.inl none, s5, t6))) (fun x9 s5 t6 => none))))))
set_option maxRecDepth 100000 in
theorem e_M_fetch_28 (K : px_K) (N : Nat) (a0 : Int32) (s : px_S) (t : px_W) (r : px_Res) (h : f_M_fetch_28 K N a0 s t = some r) : px_E px_ET px_P 7 78 0 (px_ent 2 [.ref 28, .int a0]) [] (px_w K s t) r.1 (px_w K r.2.1 r.2.2) := by
  have hM : px_P[78]? = some pm_M_fetch := rfl
  unfold f_M_fetch_28 at h
  obtain ⟨hq1, h⟩ := px_gd_some h
  refine px_blkif (c := ¬ ((s.2.2.1 41) a0.toNatClampNeg) = 0) (t := 13) (e := 5) (L' := [some (.ref 28), some (.int a0)]) (S' := []) (w' := px_w K s t) (q := [vp_in a0 (K.2.2 41)]) 5 hM rfl (show vp_in a0 (K.2.2 41) from hq1) (fun hc2 => ?_) (fun hc2 => ?_)
  · rw [if_pos hc2] at h
    cases h
    exact px_E_ret hM rfl rfl rfl trivial
  · rw [if_neg hc2] at h
    obtain ⟨hq3, h⟩ := px_gd_some h
    refine px_blkif (c := ¬ ((s.2.2.1 42) a0.toNatClampNeg) = 0) (t := 13) (e := 10) (L' := [some (.ref 28), some (.int a0)]) (S' := []) (w' := px_w K s t) (q := [vp_in a0 (K.2.2 42)]) 5 hM rfl (show vp_in a0 (K.2.2 42) from hq3) (fun hc4 => ?_) (fun hc4 => ?_)
    · rw [if_pos hc4] at h
      cases h
      exact px_E_ret hM rfl rfl rfl trivial
    · rw [if_neg hc4] at h
      refine px_blk (i' := 12) (L' := [some (.ref 28), some (.int a0)]) (S' := [.int a0, .ref 28]) (w' := px_w K s t) (q := []) 2 hM rfl trivial ?_
      rcases px_bv_some h with ⟨s5, t6, hk7, h⟩ | ⟨x9, s5, t6, hk7, h⟩
      · refine px_E_call hM rfl rfl rfl rfl (px_E_mono (by decide) (e_M_readVolume_28 K N a0 s t _ hk7)) ?_
        cases h
        exact px_E_ret hM rfl rfl rfl trivial
      · cases h
noncomputable def f_M_write2_28 (K : px_K) (N : Nat) (a0 : Int32) (a1 : Int32) (a2 : Int32) (s : px_S) (t : px_W) : Option px_Res :=
  (px_let (sR s 25 (0 : Int32)) (fun s1 => (px_bi (f_M_begins_28 K N s1 t) (fun v6 s3 t4 => (if ¬ v6 = 0 then (px_bi (f_M_isKind_28 K N a0 (2 : Int32) s3 t4) (fun v12 s9 t10 => (if v12 = 0 then (some (.inl (some (.int (-4 : Int32))), s9, t10)) else (if a1 < 0 then (some (.inl (some (.int (-4 : Int32))), s9, t10)) else (if a1 < (320 : Int32) then (px_bi (f_M_blockOf_28 K N a0 (a1 / (16 : Int32)) s9 t10) (fun v20 s17 t18 => (if ¬ v20 = 0 then (px_bv (f_M_fetch_28 K N v20 s17 t18) (fun s23 t24 => (if ¬ (s23.1 29) = 0 then (px_bv (f_M_tell_28 K N v20 (a1 - a1 / (16 : Int32) * (16 : Int32)) a2 s23 t24) (fun s29 t30 => (px_bi (f_M_ofInode_28 K N a0 (1 : Int32) s29 t30) (fun v37 s34 t35 => (if a1 < v37 then (px_bi (f_M_ofInode_28 K N a0 (1 : Int32) s34 t35) (fun v43 s40 t41 => (some (.inl (some (.int v43)), s40, t41))) (fun x44 s40 t41 => none)) else (px_bv (f_M_tellInode_28 K N a0 (1 : Int32) (a1 + (1 : Int32)) s34 t35) (fun s45 t46 => (px_bi (f_M_ofInode_28 K N a0 (1 : Int32) s45 t46) (fun v53 s50 t51 => (some (.inl (some (.int v53)), s50, t51))) (fun x54 s50 t51 => none))) (fun x49 s45 t46 => none)))) (fun x38 s34 t35 => none))) (fun x33 s29 t30 => none)) else (some (.inl (some (.int (-9 : Int32))), s23, t24)))) (fun x27 s23 t24 => none)) else (px_bi (f_M_wants_28 K N a0 (a1 / (16 : Int32)) s17 t18) (fun v58 s55 t56 => (px_bi (f_M_left_28 K N s55 t56) (fun v63 s60 t61 => (if v58 ≤ v63 then (px_bi (f_M_takeFor_28 K N a0 (a1 / (16 : Int32)) s60 t61) (fun v69 s66 t67 => (if ¬ (s66.1 29) = 0 then (px_bv (f_M_tell_28 K N v69 (a1 - a1 / (16 : Int32) * (16 : Int32)) a2 s66 t67) (fun s72 t73 => (px_bi (f_M_ofInode_28 K N a0 (1 : Int32) s72 t73) (fun v80 s77 t78 => (if a1 < v80 then (px_bi (f_M_ofInode_28 K N a0 (1 : Int32) s77 t78) (fun v86 s83 t84 => (some (.inl (some (.int v86)), s83, t84))) (fun x87 s83 t84 => none)) else (px_bv (f_M_tellInode_28 K N a0 (1 : Int32) (a1 + (1 : Int32)) s77 t78) (fun s88 t89 => (px_bi (f_M_ofInode_28 K N a0 (1 : Int32) s88 t89) (fun v96 s93 t94 => (some (.inl (some (.int v96)), s93, t94))) (fun x97 s93 t94 => none))) (fun x92 s88 t89 => none)))) (fun x81 s77 t78 => none))) (fun x76 s72 t73 => none)) else (some (.inl (some (.int (-9 : Int32))), s66, t67)))) (fun x70 s66 t67 => none)) else (some (.inl (some (.int (-3 : Int32))), s60, t61)))) (fun x64 s60 t61 => none))) (fun x59 s55 t56 => none)))) (fun x21 s17 t18 => none)) else (some (.inl (some (.int (-4 : Int32))), s9, t10)))))) (fun x13 s9 t10 => none)) else (some (.inl (some (.int (-9 : Int32))), s3, t4)))) (fun x7 s3 t4 => none))))
set_option maxRecDepth 100000 in
theorem e_M_write2_28 (K : px_K) (N : Nat) (a0 : Int32) (a1 : Int32) (a2 : Int32) (s : px_S) (t : px_W) (r : px_Res) (h : f_M_write2_28 K N a0 a1 a2 s t = some r) : px_E px_ET px_P 13 79 0 (px_ent 5 [.ref 28, .int a0, .int a1, .int a2]) [] (px_w K s t) r.1 (px_w K r.2.1 r.2.2) := by
  have hM : px_P[79]? = some pm_M_write2 := rfl
  unfold f_M_write2_28 at h
  refine px_blk (i' := 3) (L' := [some (.ref 28), some (.int a0), some (.int a1), some (.int a2), none]) (S' := []) (w' := px_w K (sR s 25 (0 : Int32)) t) (q := []) 3 hM rfl trivial ?_
  obtain ⟨s1, hs2, h⟩ := px_let_some h
  rw [← hs2]
  refine px_blk (i' := 4) (L' := [some (.ref 28), some (.int a0), some (.int a1), some (.int a2), none]) (S' := [.ref 28]) (w' := px_w K s1 t) (q := []) 1 hM rfl trivial ?_
  rcases px_bi_some h with ⟨v6, s3, t4, hk5, h⟩ | ⟨x7, s3, t4, hk5, h⟩
  · refine px_E_call hM rfl rfl rfl rfl (px_E_mono (by decide) (e_M_begins_28 K N s1 t _ hk5)) ?_
    refine px_blkif (c := ¬ v6 = 0) (t := 8) (e := 6) (L' := [some (.ref 28), some (.int a0), some (.int a1), some (.int a2), none]) (S' := []) (w' := px_w K s3 t4) (q := []) 1 hM rfl trivial (fun hc8 => ?_) (fun hc8 => ?_)
    · rw [if_pos hc8] at h
      refine px_blk (i' := 11) (L' := [some (.ref 28), some (.int a0), some (.int a1), some (.int a2), none]) (S' := [.int (2 : Int32), .int a0, .ref 28]) (w' := px_w K s3 t4) (q := []) 3 hM rfl trivial ?_
      rcases px_bi_some h with ⟨v12, s9, t10, hk11, h⟩ | ⟨x13, s9, t10, hk11, h⟩
      · refine px_E_call hM rfl rfl rfl rfl (px_E_mono (by decide) (e_M_isKind_28 K N a0 (2 : Int32) s3 t4 _ hk11)) ?_
        refine px_blkif (c := v12 = 0) (t := 18) (e := 13) (L' := [some (.ref 28), some (.int a0), some (.int a1), some (.int a2), none]) (S' := []) (w' := px_w K s9 t10) (q := []) 1 hM rfl trivial (fun hc14 => ?_) (fun hc14 => ?_)
        · rw [if_pos hc14] at h
          refine px_blk (i' := 19) (L' := [some (.ref 28), some (.int a0), some (.int a1), some (.int a2), none]) (S' := [.int (-4 : Int32)]) (w' := px_w K s9 t10) (q := []) 1 hM rfl trivial ?_
          cases h
          exact px_E_ret hM rfl rfl rfl trivial
        · rw [if_neg hc14] at h
          refine px_blkif (c := a1 < 0) (t := 18) (e := 15) (L' := [some (.ref 28), some (.int a0), some (.int a1), some (.int a2), none]) (S' := []) (w' := px_w K s9 t10) (q := []) 2 hM rfl trivial (fun hc15 => ?_) (fun hc15 => ?_)
          · rw [if_pos hc15] at h
            refine px_blk (i' := 19) (L' := [some (.ref 28), some (.int a0), some (.int a1), some (.int a2), none]) (S' := [.int (-4 : Int32)]) (w' := px_w K s9 t10) (q := []) 1 hM rfl trivial ?_
            cases h
            exact px_E_ret hM rfl rfl rfl trivial
          · rw [if_neg hc15] at h
            refine px_blkif (c := a1 < (320 : Int32)) (t := 20) (e := 18) (L' := [some (.ref 28), some (.int a0), some (.int a1), some (.int a2), none]) (S' := []) (w' := px_w K s9 t10) (q := []) 3 hM rfl trivial (fun hc16 => ?_) (fun hc16 => ?_)
            · rw [if_pos hc16] at h
              refine px_blk (i' := 25) (L' := [some (.ref 28), some (.int a0), some (.int a1), some (.int a2), none]) (S' := [.int (a1 / (16 : Int32)), .int a0, .ref 28]) (w' := px_w K s9 t10) (q := [¬ (16 : Int32) = 0]) 5 hM rfl (show ¬ (16 : Int32) = 0 from (by decide)) ?_
              rcases px_bi_some h with ⟨v20, s17, t18, hk19, h⟩ | ⟨x21, s17, t18, hk19, h⟩
              · refine px_E_call hM rfl rfl rfl rfl (px_E_mono (by decide) (e_M_blockOf_28 K N a0 (a1 / (16 : Int32)) s9 t10 _ hk19)) ?_
                refine px_blkif (c := ¬ v20 = 0) (t := 48) (e := 29) (L' := [some (.ref 28), some (.int a0), some (.int a1), some (.int a2), some (.int v20)]) (S' := []) (w' := px_w K s17 t18) (q := []) 3 hM rfl trivial (fun hc22 => ?_) (fun hc22 => ?_)
                · rw [if_pos hc22] at h
                  refine px_blk (i' := 50) (L' := [some (.ref 28), some (.int a0), some (.int a1), some (.int a2), some (.int v20)]) (S' := [.int v20, .ref 28]) (w' := px_w K s17 t18) (q := []) 2 hM rfl trivial ?_
                  rcases px_bv_some h with ⟨s23, t24, hk25, h⟩ | ⟨x27, s23, t24, hk25, h⟩
                  · refine px_E_call hM rfl rfl rfl rfl (px_E_mono (by decide) (e_M_fetch_28 K N v20 s17 t18 _ hk25)) ?_
                    refine px_blkif (c := ¬ (s23.1 29) = 0) (t := 56) (e := 54) (L' := [some (.ref 28), some (.int a0), some (.int a1), some (.int a2), some (.int v20)]) (S' := []) (w' := px_w K s23 t24) (q := []) 3 hM rfl trivial (fun hc28 => ?_) (fun hc28 => ?_)
                    · rw [if_pos hc28] at h
                      refine px_blk (i' := 62) (L' := [some (.ref 28), some (.int a0), some (.int a1), some (.int a2), some (.int v20)]) (S' := [.int a2, .int (a1 - a1 / (16 : Int32) * (16 : Int32)), .int v20, .ref 28]) (w' := px_w K s23 t24) (q := [¬ (16 : Int32) = 0]) 6 hM rfl (show ¬ (16 : Int32) = 0 from (by decide)) ?_
                      rcases px_bv_some h with ⟨s29, t30, hk31, h⟩ | ⟨x33, s29, t30, hk31, h⟩
                      · refine px_E_call hM rfl rfl rfl rfl (px_E_mono (by decide) (e_M_tell_28 K N v20 (a1 - a1 / (16 : Int32) * (16 : Int32)) a2 s23 t24 _ hk31)) ?_
                        refine px_blk (i' := 67) (L' := [some (.ref 28), some (.int a0), some (.int a1), some (.int a2), some (.int v20)]) (S' := [.int (1 : Int32), .int a0, .ref 28, .int a1]) (w' := px_w K s29 t30) (q := []) 4 hM rfl trivial ?_
                        rcases px_bi_some h with ⟨v37, s34, t35, hk36, h⟩ | ⟨x38, s34, t35, hk36, h⟩
                        · refine px_E_call hM rfl rfl rfl rfl (px_E_mono (by decide) (e_M_ofInode_28 K N a0 (1 : Int32) s29 t30 _ hk36)) ?_
                          refine px_blkif (c := a1 < v37) (t := 76) (e := 69) (L' := [some (.ref 28), some (.int a0), some (.int a1), some (.int a2), some (.int v20)]) (S' := []) (w' := px_w K s34 t35) (q := []) 1 hM rfl trivial (fun hc39 => ?_) (fun hc39 => ?_)
                          · rw [if_pos hc39] at h
                            refine px_blk (i' := 79) (L' := [some (.ref 28), some (.int a0), some (.int a1), some (.int a2), some (.int v20)]) (S' := [.int (1 : Int32), .int a0, .ref 28]) (w' := px_w K s34 t35) (q := []) 3 hM rfl trivial ?_
                            rcases px_bi_some h with ⟨v43, s40, t41, hk42, h⟩ | ⟨x44, s40, t41, hk42, h⟩
                            · refine px_E_call hM rfl rfl rfl rfl (px_E_mono (by decide) (e_M_ofInode_28 K N a0 (1 : Int32) s34 t35 _ hk42)) ?_
                              cases h
                              exact px_E_ret hM rfl rfl rfl trivial
                            · cases h
                          · rw [if_neg hc39] at h
                            refine px_blk (i' := 75) (L' := [some (.ref 28), some (.int a0), some (.int a1), some (.int a2), some (.int v20)]) (S' := [.int (a1 + (1 : Int32)), .int (1 : Int32), .int a0, .ref 28]) (w' := px_w K s34 t35) (q := []) 6 hM rfl trivial ?_
                            rcases px_bv_some h with ⟨s45, t46, hk47, h⟩ | ⟨x49, s45, t46, hk47, h⟩
                            · refine px_E_call hM rfl rfl rfl rfl (px_E_mono (by decide) (e_M_tellInode_28 K N a0 (1 : Int32) (a1 + (1 : Int32)) s34 t35 _ hk47)) ?_
                              refine px_blk (i' := 79) (L' := [some (.ref 28), some (.int a0), some (.int a1), some (.int a2), some (.int v20)]) (S' := [.int (1 : Int32), .int a0, .ref 28]) (w' := px_w K s45 t46) (q := []) 3 hM rfl trivial ?_
                              rcases px_bi_some h with ⟨v53, s50, t51, hk52, h⟩ | ⟨x54, s50, t51, hk52, h⟩
                              · refine px_E_call hM rfl rfl rfl rfl (px_E_mono (by decide) (e_M_ofInode_28 K N a0 (1 : Int32) s45 t46 _ hk52)) ?_
                                cases h
                                exact px_E_ret hM rfl rfl rfl trivial
                              · cases h
                            · cases h
                        · cases h
                      · cases h
                    · rw [if_neg hc28] at h
                      refine px_blk (i' := 55) (L' := [some (.ref 28), some (.int a0), some (.int a1), some (.int a2), some (.int v20)]) (S' := [.int (-9 : Int32)]) (w' := px_w K s23 t24) (q := []) 1 hM rfl trivial ?_
                      cases h
                      exact px_E_ret hM rfl rfl rfl trivial
                  · cases h
                · rw [if_neg hc22] at h
                  refine px_blk (i' := 34) (L' := [some (.ref 28), some (.int a0), some (.int a1), some (.int a2), some (.int v20)]) (S' := [.int (a1 / (16 : Int32)), .int a0, .ref 28]) (w' := px_w K s17 t18) (q := [¬ (16 : Int32) = 0]) 5 hM rfl (show ¬ (16 : Int32) = 0 from (by decide)) ?_
                  rcases px_bi_some h with ⟨v58, s55, t56, hk57, h⟩ | ⟨x59, s55, t56, hk57, h⟩
                  · refine px_E_call hM rfl rfl rfl rfl (px_E_mono (by decide) (e_M_wants_28 K N a0 (a1 / (16 : Int32)) s17 t18 _ hk57)) ?_
                    refine px_blk (i' := 36) (L' := [some (.ref 28), some (.int a0), some (.int a1), some (.int a2), some (.int v20)]) (S' := [.ref 28, .int v58]) (w' := px_w K s55 t56) (q := []) 1 hM rfl trivial ?_
                    rcases px_bi_some h with ⟨v63, s60, t61, hk62, h⟩ | ⟨x64, s60, t61, hk62, h⟩
                    · refine px_E_call hM rfl rfl rfl rfl (px_E_mono (by decide) (e_M_left_28 K N s55 t56 _ hk62)) ?_
                      refine px_blkif (c := v58 ≤ v63) (t := 40) (e := 38) (L' := [some (.ref 28), some (.int a0), some (.int a1), some (.int a2), some (.int v20)]) (S' := []) (w' := px_w K s60 t61) (q := []) 1 hM rfl trivial (fun hc65 => ?_) (fun hc65 => ?_)
                      · rw [if_pos hc65] at h
                        refine px_blk (i' := 45) (L' := [some (.ref 28), some (.int a0), some (.int a1), some (.int a2), some (.int v20)]) (S' := [.int (a1 / (16 : Int32)), .int a0, .ref 28]) (w' := px_w K s60 t61) (q := [¬ (16 : Int32) = 0]) 5 hM rfl (show ¬ (16 : Int32) = 0 from (by decide)) ?_
                        rcases px_bi_some h with ⟨v69, s66, t67, hk68, h⟩ | ⟨x70, s66, t67, hk68, h⟩
                        · refine px_E_call hM rfl rfl rfl rfl (px_E_mono (by decide) (e_M_takeFor_28 K N a0 (a1 / (16 : Int32)) s60 t61 _ hk68)) ?_
                          refine px_blkif (c := ¬ (s66.1 29) = 0) (t := 56) (e := 54) (L' := [some (.ref 28), some (.int a0), some (.int a1), some (.int a2), some (.int v69)]) (S' := []) (w' := px_w K s66 t67) (q := []) 5 hM rfl trivial (fun hc71 => ?_) (fun hc71 => ?_)
                          · rw [if_pos hc71] at h
                            refine px_blk (i' := 62) (L' := [some (.ref 28), some (.int a0), some (.int a1), some (.int a2), some (.int v69)]) (S' := [.int a2, .int (a1 - a1 / (16 : Int32) * (16 : Int32)), .int v69, .ref 28]) (w' := px_w K s66 t67) (q := [¬ (16 : Int32) = 0]) 6 hM rfl (show ¬ (16 : Int32) = 0 from (by decide)) ?_
                            rcases px_bv_some h with ⟨s72, t73, hk74, h⟩ | ⟨x76, s72, t73, hk74, h⟩
                            · refine px_E_call hM rfl rfl rfl rfl (px_E_mono (by decide) (e_M_tell_28 K N v69 (a1 - a1 / (16 : Int32) * (16 : Int32)) a2 s66 t67 _ hk74)) ?_
                              refine px_blk (i' := 67) (L' := [some (.ref 28), some (.int a0), some (.int a1), some (.int a2), some (.int v69)]) (S' := [.int (1 : Int32), .int a0, .ref 28, .int a1]) (w' := px_w K s72 t73) (q := []) 4 hM rfl trivial ?_
                              rcases px_bi_some h with ⟨v80, s77, t78, hk79, h⟩ | ⟨x81, s77, t78, hk79, h⟩
                              · refine px_E_call hM rfl rfl rfl rfl (px_E_mono (by decide) (e_M_ofInode_28 K N a0 (1 : Int32) s72 t73 _ hk79)) ?_
                                refine px_blkif (c := a1 < v80) (t := 76) (e := 69) (L' := [some (.ref 28), some (.int a0), some (.int a1), some (.int a2), some (.int v69)]) (S' := []) (w' := px_w K s77 t78) (q := []) 1 hM rfl trivial (fun hc82 => ?_) (fun hc82 => ?_)
                                · rw [if_pos hc82] at h
                                  refine px_blk (i' := 79) (L' := [some (.ref 28), some (.int a0), some (.int a1), some (.int a2), some (.int v69)]) (S' := [.int (1 : Int32), .int a0, .ref 28]) (w' := px_w K s77 t78) (q := []) 3 hM rfl trivial ?_
                                  rcases px_bi_some h with ⟨v86, s83, t84, hk85, h⟩ | ⟨x87, s83, t84, hk85, h⟩
                                  · refine px_E_call hM rfl rfl rfl rfl (px_E_mono (by decide) (e_M_ofInode_28 K N a0 (1 : Int32) s77 t78 _ hk85)) ?_
                                    cases h
                                    exact px_E_ret hM rfl rfl rfl trivial
                                  · cases h
                                · rw [if_neg hc82] at h
                                  refine px_blk (i' := 75) (L' := [some (.ref 28), some (.int a0), some (.int a1), some (.int a2), some (.int v69)]) (S' := [.int (a1 + (1 : Int32)), .int (1 : Int32), .int a0, .ref 28]) (w' := px_w K s77 t78) (q := []) 6 hM rfl trivial ?_
                                  rcases px_bv_some h with ⟨s88, t89, hk90, h⟩ | ⟨x92, s88, t89, hk90, h⟩
                                  · refine px_E_call hM rfl rfl rfl rfl (px_E_mono (by decide) (e_M_tellInode_28 K N a0 (1 : Int32) (a1 + (1 : Int32)) s77 t78 _ hk90)) ?_
                                    refine px_blk (i' := 79) (L' := [some (.ref 28), some (.int a0), some (.int a1), some (.int a2), some (.int v69)]) (S' := [.int (1 : Int32), .int a0, .ref 28]) (w' := px_w K s88 t89) (q := []) 3 hM rfl trivial ?_
                                    rcases px_bi_some h with ⟨v96, s93, t94, hk95, h⟩ | ⟨x97, s93, t94, hk95, h⟩
                                    · refine px_E_call hM rfl rfl rfl rfl (px_E_mono (by decide) (e_M_ofInode_28 K N a0 (1 : Int32) s88 t89 _ hk95)) ?_
                                      cases h
                                      exact px_E_ret hM rfl rfl rfl trivial
                                    · cases h
                                  · cases h
                              · cases h
                            · cases h
                          · rw [if_neg hc71] at h
                            refine px_blk (i' := 55) (L' := [some (.ref 28), some (.int a0), some (.int a1), some (.int a2), some (.int v69)]) (S' := [.int (-9 : Int32)]) (w' := px_w K s66 t67) (q := []) 1 hM rfl trivial ?_
                            cases h
                            exact px_E_ret hM rfl rfl rfl trivial
                        · cases h
                      · rw [if_neg hc65] at h
                        refine px_blk (i' := 39) (L' := [some (.ref 28), some (.int a0), some (.int a1), some (.int a2), some (.int v20)]) (S' := [.int (-3 : Int32)]) (w' := px_w K s60 t61) (q := []) 1 hM rfl trivial ?_
                        cases h
                        exact px_E_ret hM rfl rfl rfl trivial
                    · cases h
                  · cases h
              · cases h
            · rw [if_neg hc16] at h
              refine px_blk (i' := 19) (L' := [some (.ref 28), some (.int a0), some (.int a1), some (.int a2), none]) (S' := [.int (-4 : Int32)]) (w' := px_w K s9 t10) (q := []) 1 hM rfl trivial ?_
              cases h
              exact px_E_ret hM rfl rfl rfl trivial
      · cases h
    · rw [if_neg hc8] at h
      refine px_blk (i' := 7) (L' := [some (.ref 28), some (.int a0), some (.int a1), some (.int a2), none]) (S' := [.int (-9 : Int32)]) (w' := px_w K s3 t4) (q := []) 1 hM rfl trivial ?_
      cases h
      exact px_E_ret hM rfl rfl rfl trivial
  · cases h
noncomputable def f_M_read2_28 (K : px_K) (N : Nat) (a0 : Int32) (a1 : Int32) (s : px_S) (t : px_W) : Option px_Res :=
  (if ¬ (s.1 29) = 0 then (px_bi (f_M_isKind_28 K N a0 (2 : Int32) s t) (fun v5 s2 t3 => (px_let (sR s2 25 (if v5 = 0 then (2 : Int32) else (if a1 < 0 then (2 : Int32) else (if a1 < (320 : Int32) then (0 : Int32) else (2 : Int32))))) (fun s7 => (if (s7.1 25) ≤ 0 then (px_bi (f_M_blockOf_28 K N a0 (a1 / (16 : Int32)) s7 t3) (fun v13 s10 t11 => (if ¬ v13 = 0 then (px_bv (f_M_fetch_28 K N v13 s10 t11) (fun s16 t17 => (px_let (sR s16 25 (if (s16.1 29) = 0 then (1 : Int32) else (0 : Int32))) (fun s21 => (if (s21.1 25) ≤ 0 then (px_bi (f_M_word_28 K N v13 (a1 - a1 / (16 : Int32) * (16 : Int32)) s21 t17) (fun v27 s24 t25 => (some (.inl (some (.int v27)), s24, t25))) (fun x28 s24 t25 => none)) else (some (.inl (some (.int (0 : Int32))), s21, t17)))))) (fun x20 s16 t17 => none)) else (some (.inl (some (.int (0 : Int32))), s10, t11)))) (fun x14 s10 t11 => none)) else (some (.inl (some (.int (0 : Int32))), s7, t3)))))) (fun x6 s2 t3 => none)) else (px_let (sR s 25 (1 : Int32)) (fun s33 => (if (s33.1 25) ≤ 0 then (px_bi (f_M_blockOf_28 K N a0 (a1 / (16 : Int32)) s33 t) (fun v39 s36 t37 => (if ¬ v39 = 0 then (px_bv (f_M_fetch_28 K N v39 s36 t37) (fun s42 t43 => (px_let (sR s42 25 (if (s42.1 29) = 0 then (1 : Int32) else (0 : Int32))) (fun s47 => (if (s47.1 25) ≤ 0 then (px_bi (f_M_word_28 K N v39 (a1 - a1 / (16 : Int32) * (16 : Int32)) s47 t43) (fun v53 s50 t51 => (some (.inl (some (.int v53)), s50, t51))) (fun x54 s50 t51 => none)) else (some (.inl (some (.int (0 : Int32))), s47, t43)))))) (fun x46 s42 t43 => none)) else (some (.inl (some (.int (0 : Int32))), s36, t37)))) (fun x40 s36 t37 => none)) else (some (.inl (some (.int (0 : Int32))), s33, t))))))
set_option maxRecDepth 100000 in
theorem e_M_read2_28 (K : px_K) (N : Nat) (a0 : Int32) (a1 : Int32) (s : px_S) (t : px_W) (r : px_Res) (h : f_M_read2_28 K N a0 a1 s t = some r) : px_E px_ET px_P 8 80 0 (px_ent 4 [.ref 28, .int a0, .int a1]) [] (px_w K s t) r.1 (px_w K r.2.1 r.2.2) := by
  have hM : px_P[80]? = some pm_M_read2 := rfl
  unfold f_M_read2_28 at h
  refine px_blkif (c := ¬ (s.1 29) = 0) (t := 6) (e := 4) (L' := [some (.ref 28), some (.int a0), some (.int a1), none]) (S' := [.ref 28]) (w' := px_w K s t) (q := []) 4 hM rfl trivial (fun hc1 => ?_) (fun hc1 => ?_)
  · rw [if_pos hc1] at h
    refine px_blk (i' := 9) (L' := [some (.ref 28), some (.int a0), some (.int a1), none]) (S' := [.int (2 : Int32), .int a0, .ref 28, .ref 28]) (w' := px_w K s t) (q := []) 3 hM rfl trivial ?_
    rcases px_bi_some h with ⟨v5, s2, t3, hk4, h⟩ | ⟨x6, s2, t3, hk4, h⟩
    · refine px_E_call hM rfl rfl rfl rfl (px_E_mono (by decide) (e_M_isKind_28 K N a0 (2 : Int32) s t _ hk4)) ?_
      have hK : px_E px_ET px_P 8 80 19 [some (.ref 28), some (.int a0), some (.int a1), none] [.int (if v5 = 0 then (2 : Int32) else (if a1 < 0 then (2 : Int32) else (if a1 < (320 : Int32) then (0 : Int32) else (2 : Int32)))), .ref 28] (px_w K s2 t3) r.1 (px_w K r.2.1 r.2.2) := by
        refine px_blk (i' := 20) (L' := [some (.ref 28), some (.int a0), some (.int a1), none]) (S' := []) (w' := px_w K (sR s2 25 (if v5 = 0 then (2 : Int32) else (if a1 < 0 then (2 : Int32) else (if a1 < (320 : Int32) then (0 : Int32) else (2 : Int32))))) t3) (q := []) 1 hM rfl trivial ?_
        obtain ⟨s7, hs8, h⟩ := px_let_some h
        rw [← hs8]
        refine px_blkif (c := (s7.1 25) ≤ 0) (t := 25) (e := 23) (L' := [some (.ref 28), some (.int a0), some (.int a1), none]) (S' := []) (w' := px_w K s7 t3) (q := []) 3 hM rfl trivial (fun hc9 => ?_) (fun hc9 => ?_)
        · rw [if_pos hc9] at h
          refine px_blk (i' := 30) (L' := [some (.ref 28), some (.int a0), some (.int a1), none]) (S' := [.int (a1 / (16 : Int32)), .int a0, .ref 28]) (w' := px_w K s7 t3) (q := [¬ (16 : Int32) = 0]) 5 hM rfl (show ¬ (16 : Int32) = 0 from (by decide)) ?_
          rcases px_bi_some h with ⟨v13, s10, t11, hk12, h⟩ | ⟨x14, s10, t11, hk12, h⟩
          · refine px_E_call hM rfl rfl rfl rfl (px_E_mono (by decide) (e_M_blockOf_28 K N a0 (a1 / (16 : Int32)) s7 t3 _ hk12)) ?_
            refine px_blkif (c := ¬ v13 = 0) (t := 36) (e := 34) (L' := [some (.ref 28), some (.int a0), some (.int a1), some (.int v13)]) (S' := []) (w' := px_w K s10 t11) (q := []) 3 hM rfl trivial (fun hc15 => ?_) (fun hc15 => ?_)
            · rw [if_pos hc15] at h
              refine px_blk (i' := 38) (L' := [some (.ref 28), some (.int a0), some (.int a1), some (.int v13)]) (S' := [.int v13, .ref 28]) (w' := px_w K s10 t11) (q := []) 2 hM rfl trivial ?_
              rcases px_bv_some h with ⟨s16, t17, hk18, h⟩ | ⟨x20, s16, t17, hk18, h⟩
              · refine px_E_call hM rfl rfl rfl rfl (px_E_mono (by decide) (e_M_fetch_28 K N v13 s10 t11 _ hk18)) ?_
                refine px_blk (i' := 42) (L' := [some (.ref 28), some (.int a0), some (.int a1), some (.int v13)]) (S' := [.int (s16.1 29), .ref 28]) (w' := px_w K s16 t17) (q := []) 3 hM rfl trivial ?_
                have hK : px_E px_ET px_P 8 80 46 [some (.ref 28), some (.int a0), some (.int a1), some (.int v13)] [.int (if (s16.1 29) = 0 then (1 : Int32) else (0 : Int32)), .ref 28] (px_w K s16 t17) r.1 (px_w K r.2.1 r.2.2) := by
                  refine px_blk (i' := 47) (L' := [some (.ref 28), some (.int a0), some (.int a1), some (.int v13)]) (S' := []) (w' := px_w K (sR s16 25 (if (s16.1 29) = 0 then (1 : Int32) else (0 : Int32))) t17) (q := []) 1 hM rfl trivial ?_
                  obtain ⟨s21, hs22, h⟩ := px_let_some h
                  rw [← hs22]
                  refine px_blkif (c := (s21.1 25) ≤ 0) (t := 52) (e := 50) (L' := [some (.ref 28), some (.int a0), some (.int a1), some (.int v13)]) (S' := []) (w' := px_w K s21 t17) (q := []) 3 hM rfl trivial (fun hc23 => ?_) (fun hc23 => ?_)
                  · rw [if_pos hc23] at h
                    refine px_blk (i' := 57) (L' := [some (.ref 28), some (.int a0), some (.int a1), some (.int v13)]) (S' := [.int (a1 - a1 / (16 : Int32) * (16 : Int32)), .int v13, .ref 28]) (w' := px_w K s21 t17) (q := [¬ (16 : Int32) = 0]) 5 hM rfl (show ¬ (16 : Int32) = 0 from (by decide)) ?_
                    rcases px_bi_some h with ⟨v27, s24, t25, hk26, h⟩ | ⟨x28, s24, t25, hk26, h⟩
                    · refine px_E_call hM rfl rfl rfl rfl (px_E_mono (by decide) (e_M_word_28 K N v13 (a1 - a1 / (16 : Int32) * (16 : Int32)) s21 t17 _ hk26)) ?_
                      cases h
                      exact px_E_ret hM rfl rfl rfl trivial
                    · cases h
                  · rw [if_neg hc23] at h
                    refine px_blk (i' := 58) (L' := [some (.ref 28), some (.int a0), some (.int a1), some (.int v13)]) (S' := [.int (0 : Int32)]) (w' := px_w K s21 t17) (q := []) 2 hM rfl trivial ?_
                    cases h
                    exact px_E_ret hM rfl rfl rfl trivial
                clear h
                refine px_blkif (c := (s16.1 29) = 0) (t := 45) (e := 43) (L' := [some (.ref 28), some (.int a0), some (.int a1), some (.int v13)]) (S' := [.ref 28]) (w' := px_w K s16 t17) (q := []) 1 hM rfl trivial (fun hc29 => ?_) (fun hc29 => ?_)
                · rw [if_pos hc29] at hK
                  exact px_blk (i' := 46) (L' := [some (.ref 28), some (.int a0), some (.int a1), some (.int v13)]) (S' := [.int (1 : Int32), .ref 28]) (w' := px_w K s16 t17) (q := []) 1 hM rfl trivial hK
                · rw [if_neg hc29] at hK
                  exact px_blk (i' := 46) (L' := [some (.ref 28), some (.int a0), some (.int a1), some (.int v13)]) (S' := [.int (0 : Int32), .ref 28]) (w' := px_w K s16 t17) (q := []) 2 hM rfl trivial hK
              · cases h
            · rw [if_neg hc15] at h
              refine px_blk (i' := 35) (L' := [some (.ref 28), some (.int a0), some (.int a1), some (.int v13)]) (S' := [.int (0 : Int32)]) (w' := px_w K s10 t11) (q := []) 1 hM rfl trivial ?_
              cases h
              exact px_E_ret hM rfl rfl rfl trivial
          · cases h
        · rw [if_neg hc9] at h
          refine px_blk (i' := 24) (L' := [some (.ref 28), some (.int a0), some (.int a1), none]) (S' := [.int (0 : Int32)]) (w' := px_w K s7 t3) (q := []) 1 hM rfl trivial ?_
          cases h
          exact px_E_ret hM rfl rfl rfl trivial
      clear h
      refine px_blkif (c := v5 = 0) (t := 16) (e := 11) (L' := [some (.ref 28), some (.int a0), some (.int a1), none]) (S' := [.ref 28]) (w' := px_w K s2 t3) (q := []) 1 hM rfl trivial (fun hc30 => ?_) (fun hc30 => ?_)
      · rw [if_pos hc30] at hK
        exact px_blk (i' := 19) (L' := [some (.ref 28), some (.int a0), some (.int a1), none]) (S' := [.int (2 : Int32), .ref 28]) (w' := px_w K s2 t3) (q := []) 2 hM rfl trivial hK
      · rw [if_neg hc30] at hK
        refine px_blkif (c := a1 < 0) (t := 16) (e := 13) (L' := [some (.ref 28), some (.int a0), some (.int a1), none]) (S' := [.ref 28]) (w' := px_w K s2 t3) (q := []) 2 hM rfl trivial (fun hc31 => ?_) (fun hc31 => ?_)
        · rw [if_pos hc31] at hK
          exact px_blk (i' := 19) (L' := [some (.ref 28), some (.int a0), some (.int a1), none]) (S' := [.int (2 : Int32), .ref 28]) (w' := px_w K s2 t3) (q := []) 2 hM rfl trivial hK
        · rw [if_neg hc31] at hK
          refine px_blkif (c := a1 < (320 : Int32)) (t := 18) (e := 16) (L' := [some (.ref 28), some (.int a0), some (.int a1), none]) (S' := [.ref 28]) (w' := px_w K s2 t3) (q := []) 3 hM rfl trivial (fun hc32 => ?_) (fun hc32 => ?_)
          · rw [if_pos hc32] at hK
            exact px_blk (i' := 19) (L' := [some (.ref 28), some (.int a0), some (.int a1), none]) (S' := [.int (0 : Int32), .ref 28]) (w' := px_w K s2 t3) (q := []) 1 hM rfl trivial hK
          · rw [if_neg hc32] at hK
            exact px_blk (i' := 19) (L' := [some (.ref 28), some (.int a0), some (.int a1), none]) (S' := [.int (2 : Int32), .ref 28]) (w' := px_w K s2 t3) (q := []) 2 hM rfl trivial hK
    · cases h
  · rw [if_neg hc1] at h
    refine px_blk (i' := 20) (L' := [some (.ref 28), some (.int a0), some (.int a1), none]) (S' := []) (w' := px_w K (sR s 25 (1 : Int32)) t) (q := []) 3 hM rfl trivial ?_
    obtain ⟨s33, hs34, h⟩ := px_let_some h
    rw [← hs34]
    refine px_blkif (c := (s33.1 25) ≤ 0) (t := 25) (e := 23) (L' := [some (.ref 28), some (.int a0), some (.int a1), none]) (S' := []) (w' := px_w K s33 t) (q := []) 3 hM rfl trivial (fun hc35 => ?_) (fun hc35 => ?_)
    · rw [if_pos hc35] at h
      refine px_blk (i' := 30) (L' := [some (.ref 28), some (.int a0), some (.int a1), none]) (S' := [.int (a1 / (16 : Int32)), .int a0, .ref 28]) (w' := px_w K s33 t) (q := [¬ (16 : Int32) = 0]) 5 hM rfl (show ¬ (16 : Int32) = 0 from (by decide)) ?_
      rcases px_bi_some h with ⟨v39, s36, t37, hk38, h⟩ | ⟨x40, s36, t37, hk38, h⟩
      · refine px_E_call hM rfl rfl rfl rfl (px_E_mono (by decide) (e_M_blockOf_28 K N a0 (a1 / (16 : Int32)) s33 t _ hk38)) ?_
        refine px_blkif (c := ¬ v39 = 0) (t := 36) (e := 34) (L' := [some (.ref 28), some (.int a0), some (.int a1), some (.int v39)]) (S' := []) (w' := px_w K s36 t37) (q := []) 3 hM rfl trivial (fun hc41 => ?_) (fun hc41 => ?_)
        · rw [if_pos hc41] at h
          refine px_blk (i' := 38) (L' := [some (.ref 28), some (.int a0), some (.int a1), some (.int v39)]) (S' := [.int v39, .ref 28]) (w' := px_w K s36 t37) (q := []) 2 hM rfl trivial ?_
          rcases px_bv_some h with ⟨s42, t43, hk44, h⟩ | ⟨x46, s42, t43, hk44, h⟩
          · refine px_E_call hM rfl rfl rfl rfl (px_E_mono (by decide) (e_M_fetch_28 K N v39 s36 t37 _ hk44)) ?_
            refine px_blk (i' := 42) (L' := [some (.ref 28), some (.int a0), some (.int a1), some (.int v39)]) (S' := [.int (s42.1 29), .ref 28]) (w' := px_w K s42 t43) (q := []) 3 hM rfl trivial ?_
            have hK : px_E px_ET px_P 8 80 46 [some (.ref 28), some (.int a0), some (.int a1), some (.int v39)] [.int (if (s42.1 29) = 0 then (1 : Int32) else (0 : Int32)), .ref 28] (px_w K s42 t43) r.1 (px_w K r.2.1 r.2.2) := by
              refine px_blk (i' := 47) (L' := [some (.ref 28), some (.int a0), some (.int a1), some (.int v39)]) (S' := []) (w' := px_w K (sR s42 25 (if (s42.1 29) = 0 then (1 : Int32) else (0 : Int32))) t43) (q := []) 1 hM rfl trivial ?_
              obtain ⟨s47, hs48, h⟩ := px_let_some h
              rw [← hs48]
              refine px_blkif (c := (s47.1 25) ≤ 0) (t := 52) (e := 50) (L' := [some (.ref 28), some (.int a0), some (.int a1), some (.int v39)]) (S' := []) (w' := px_w K s47 t43) (q := []) 3 hM rfl trivial (fun hc49 => ?_) (fun hc49 => ?_)
              · rw [if_pos hc49] at h
                refine px_blk (i' := 57) (L' := [some (.ref 28), some (.int a0), some (.int a1), some (.int v39)]) (S' := [.int (a1 - a1 / (16 : Int32) * (16 : Int32)), .int v39, .ref 28]) (w' := px_w K s47 t43) (q := [¬ (16 : Int32) = 0]) 5 hM rfl (show ¬ (16 : Int32) = 0 from (by decide)) ?_
                rcases px_bi_some h with ⟨v53, s50, t51, hk52, h⟩ | ⟨x54, s50, t51, hk52, h⟩
                · refine px_E_call hM rfl rfl rfl rfl (px_E_mono (by decide) (e_M_word_28 K N v39 (a1 - a1 / (16 : Int32) * (16 : Int32)) s47 t43 _ hk52)) ?_
                  cases h
                  exact px_E_ret hM rfl rfl rfl trivial
                · cases h
              · rw [if_neg hc49] at h
                refine px_blk (i' := 58) (L' := [some (.ref 28), some (.int a0), some (.int a1), some (.int v39)]) (S' := [.int (0 : Int32)]) (w' := px_w K s47 t43) (q := []) 2 hM rfl trivial ?_
                cases h
                exact px_E_ret hM rfl rfl rfl trivial
            clear h
            refine px_blkif (c := (s42.1 29) = 0) (t := 45) (e := 43) (L' := [some (.ref 28), some (.int a0), some (.int a1), some (.int v39)]) (S' := [.ref 28]) (w' := px_w K s42 t43) (q := []) 1 hM rfl trivial (fun hc55 => ?_) (fun hc55 => ?_)
            · rw [if_pos hc55] at hK
              exact px_blk (i' := 46) (L' := [some (.ref 28), some (.int a0), some (.int a1), some (.int v39)]) (S' := [.int (1 : Int32), .ref 28]) (w' := px_w K s42 t43) (q := []) 1 hM rfl trivial hK
            · rw [if_neg hc55] at hK
              exact px_blk (i' := 46) (L' := [some (.ref 28), some (.int a0), some (.int a1), some (.int v39)]) (S' := [.int (0 : Int32), .ref 28]) (w' := px_w K s42 t43) (q := []) 2 hM rfl trivial hK
          · cases h
        · rw [if_neg hc41] at h
          refine px_blk (i' := 35) (L' := [some (.ref 28), some (.int a0), some (.int a1), some (.int v39)]) (S' := [.int (0 : Int32)]) (w' := px_w K s36 t37) (q := []) 1 hM rfl trivial ?_
          cases h
          exact px_E_ret hM rfl rfl rfl trivial
      · cases h
    · rw [if_neg hc35] at h
      refine px_blk (i' := 24) (L' := [some (.ref 28), some (.int a0), some (.int a1), none]) (S' := [.int (0 : Int32)]) (w' := px_w K s33 t) (q := []) 1 hM rfl trivial ?_
      cases h
      exact px_E_ret hM rfl rfl rfl trivial
noncomputable def l_M_cut_28_77 (K : px_K) (N : Nat) (n : Nat) (u1 : Int32) (u2 : Int32) (u4 : Int32) (m5 : Int32) (m6 : Int32) (s : px_S) (t : px_W) : Option px_LO := match n with
  | 0 => none
  | n + 1 => (if (20 : Int32) ≤ m6 then (some (.inl (126, [m5], s, t))) else (px_bi (f_M_blockOf_28 K N u1 m6 s t) (fun v5 s2 t3 => (if ¬ v5 = 0 then (if u2 ≤ ((16 : Int32) * m6) then (px_bv (f_M_giveBack_28 K N v5 s2 t3) (fun s9 t10 => (if (4 : Int32) ≤ m6 then (px_bv (f_M_tell_28 K N u4 (m6 - (4 : Int32)) (0 : Int32) s9 t10) (fun s15 t16 => (l_M_cut_28_77 K N n u1 u2 u4 m5 (m6 + (1 : Int32)) s15 t16)) (fun x19 s15 t16 => none)) else (px_bv (f_M_tellInode_28 K N u1 ((2 : Int32) + m6) (0 : Int32) s9 t10) (fun s20 t21 => (l_M_cut_28_77 K N n u1 u2 u4 m5 (m6 + (1 : Int32)) s20 t21)) (fun x24 s20 t21 => none)))) (fun x13 s9 t10 => none)) else (px_let (if ¬ m5 = 0 then (1 : Int32) else (if m6 < (4 : Int32) then (0 : Int32) else (1 : Int32))) (fun v25 => (l_M_cut_28_77 K N n u1 u2 u4 v25 (m6 + (1 : Int32)) s2 t3)))) else (l_M_cut_28_77 K N n u1 u2 u4 m5 (m6 + (1 : Int32)) s2 t3))) (fun x6 s2 t3 => none)))
def a_l_M_cut_28_77 (K : px_K) (u1 : Int32) (u2 : Int32) (u4 : Int32) (z : px_LO) (o : Option Value ⊕ Nat) (w2 : px_W) : Prop := match z with
  | .inr (o', s', t') => o = o' ∧ w2 = px_w K s' t'
  | .inl (126, [y5], s', t') => px_E px_ET px_P 13 81 126 [some (.ref 28), some (.int u1), some (.int u2), none, some (.int u4), some (.int y5), none, none] [] (px_w K s' t') o w2
  | _ => False
noncomputable def l_M_cut_28_58 (K : px_K) (N : Nat) (n : Nat) (u1 : Int32) (u2 : Int32) (u3 : Int32) (m4 : Int32) (s : px_S) (t : px_W) : Option px_LO := match n with
  | 0 => none
  | n + 1 => (if (16 : Int32) ≤ m4 then (some (.inl (68, [], s, t))) else (px_bv (f_M_tell_28 K N u3 m4 (0 : Int32) s t) (fun s2 t3 => (l_M_cut_28_58 K N n u1 u2 u3 (m4 + (1 : Int32)) s2 t3)) (fun x6 s2 t3 => none)))
def a_l_M_cut_28_58 (K : px_K) (u1 : Int32) (u2 : Int32) (u3 : Int32) (z : px_LO) (o : Option Value ⊕ Nat) (w2 : px_W) : Prop := match z with
  | .inr (o', s', t') => o = o' ∧ w2 = px_w K s' t'
  | .inl (68, [], s', t') => px_E px_ET px_P 13 81 68 [some (.ref 28), some (.int u1), some (.int u2), none, none, none, none, none] [] (px_w K s' t') o w2
  | _ => False
set_option maxRecDepth 100000 in
theorem e_l_M_cut_28_77 (K : px_K) (N : Nat) (u1 : Int32) (u2 : Int32) (u4 : Int32) : ∀ (n : Nat) (m5 : Int32) (m6 : Int32) (s : px_S) (t : px_W) (z : px_LO), l_M_cut_28_77 K N n u1 u2 u4 m5 m6 s t = some z → ∀ (o : Option Value ⊕ Nat) (w2 : px_W), a_l_M_cut_28_77 K u1 u2 u4 z o w2 → px_E px_ET px_P 13 81 77 [some (.ref 28), some (.int u1), some (.int u2), none, some (.int u4), some (.int m5), some (.int m6), none] [] (px_w K s t) o w2 := by
  have hM : px_P[81]? = some pm_M_cut := rfl
  intro n
  induction n with
  | zero => intro m5 m6 s t z h; cases h
  | succ n ih =>
    intro m5 m6 s t z h o w2 ha
    unfold l_M_cut_28_77 at h
    refine px_blkif (c := (20 : Int32) ≤ m6) (t := 126) (e := 80) (L' := [some (.ref 28), some (.int u1), some (.int u2), none, some (.int u4), some (.int m5), some (.int m6), none]) (S' := []) (w' := px_w K s t) (q := []) 3 hM rfl trivial (fun hc1 => ?_) (fun hc1 => ?_)
    · rw [if_pos hc1] at h
      cases h
      exact px_E_le (px_leC_L _ _ (by simp [px_leC, px_le1, Value.category])) ha
    · rw [if_neg hc1] at h
      refine px_blk (i' := 83) (L' := [some (.ref 28), some (.int u1), some (.int u2), none, some (.int u4), some (.int m5), some (.int m6), none]) (S' := [.int m6, .int u1, .ref 28]) (w' := px_w K s t) (q := []) 3 hM rfl trivial ?_
      rcases px_bi_some h with ⟨v5, s2, t3, hk4, h⟩ | ⟨x6, s2, t3, hk4, h⟩
      · refine px_E_call hM rfl rfl rfl rfl (px_E_mono (by decide) (e_M_blockOf_28 K N u1 m6 s t _ hk4)) ?_
        refine px_blkif (c := ¬ v5 = 0) (t := 88) (e := 87) (L' := [some (.ref 28), some (.int u1), some (.int u2), none, some (.int u4), some (.int m5), some (.int m6), some (.int v5)]) (S' := []) (w' := px_w K s2 t3) (q := []) 3 hM rfl trivial (fun hc7 => ?_) (fun hc7 => ?_)
        · rw [if_pos hc7] at h
          refine px_blkif (c := u2 ≤ ((16 : Int32) * m6)) (t := 103) (e := 93) (L' := [some (.ref 28), some (.int u1), some (.int u2), none, some (.int u4), some (.int m5), some (.int m6), some (.int v5)]) (S' := []) (w' := px_w K s2 t3) (q := []) 5 hM rfl trivial (fun hc8 => ?_) (fun hc8 => ?_)
          · rw [if_pos hc8] at h
            refine px_blk (i' := 105) (L' := [some (.ref 28), some (.int u1), some (.int u2), none, some (.int u4), some (.int m5), some (.int m6), some (.int v5)]) (S' := [.int v5, .ref 28]) (w' := px_w K s2 t3) (q := []) 2 hM rfl trivial ?_
            rcases px_bv_some h with ⟨s9, t10, hk11, h⟩ | ⟨x13, s9, t10, hk11, h⟩
            · refine px_E_call hM rfl rfl rfl rfl (px_E_mono (by decide) (e_M_giveBack_28 K N v5 s2 t3 _ hk11)) ?_
              refine px_blkif (c := (4 : Int32) ≤ m6) (t := 117) (e := 109) (L' := [some (.ref 28), some (.int u1), some (.int u2), none, some (.int u4), some (.int m5), some (.int m6), some (.int v5)]) (S' := []) (w' := px_w K s9 t10) (q := []) 3 hM rfl trivial (fun hc14 => ?_) (fun hc14 => ?_)
              · rw [if_pos hc14] at h
                refine px_blk (i' := 123) (L' := [some (.ref 28), some (.int u1), some (.int u2), none, some (.int u4), some (.int m5), some (.int m6), some (.int v5)]) (S' := [.int (0 : Int32), .int (m6 - (4 : Int32)), .int u4, .ref 28]) (w' := px_w K s9 t10) (q := []) 6 hM rfl trivial ?_
                rcases px_bv_some h with ⟨s15, t16, hk17, h⟩ | ⟨x19, s15, t16, hk17, h⟩
                · refine px_E_call hM rfl rfl rfl rfl (px_E_mono (by decide) (e_M_tell_28 K N u4 (m6 - (4 : Int32)) (0 : Int32) s9 t10 _ hk17)) ?_
                  refine px_blk (i' := 77) (L' := [some (.ref 28), some (.int u1), some (.int u2), none, some (.int u4), some (.int m5), some (.int (m6 + (1 : Int32))), some (.int v5)]) (S' := []) (w' := px_w K s15 t16) (q := []) 2 hM rfl trivial ?_
                  exact px_E_le (px_leC_L _ _ (by simp [px_leC, px_le1, Value.category])) (ih m5 (m6 + (1 : Int32)) s15 t16 z h o w2 ha)
                · cases h
              · rw [if_neg hc14] at h
                refine px_blk (i' := 115) (L' := [some (.ref 28), some (.int u1), some (.int u2), none, some (.int u4), some (.int m5), some (.int m6), some (.int v5)]) (S' := [.int (0 : Int32), .int ((2 : Int32) + m6), .int u1, .ref 28]) (w' := px_w K s9 t10) (q := []) 6 hM rfl trivial ?_
                rcases px_bv_some h with ⟨s20, t21, hk22, h⟩ | ⟨x24, s20, t21, hk22, h⟩
                · refine px_E_call hM rfl rfl rfl rfl (px_E_mono (by decide) (e_M_tellInode_28 K N u1 ((2 : Int32) + m6) (0 : Int32) s9 t10 _ hk22)) ?_
                  refine px_blk (i' := 77) (L' := [some (.ref 28), some (.int u1), some (.int u2), none, some (.int u4), some (.int m5), some (.int (m6 + (1 : Int32))), some (.int v5)]) (S' := []) (w' := px_w K s20 t21) (q := []) 3 hM rfl trivial ?_
                  exact px_E_le (px_leC_L _ _ (by simp [px_leC, px_le1, Value.category])) (ih m5 (m6 + (1 : Int32)) s20 t21 z h o w2 ha)
                · cases h
            · cases h
          · rw [if_neg hc8] at h
            refine px_blk (i' := 94) (L' := [some (.ref 28), some (.int u1), some (.int u2), none, some (.int u4), some (.int m5), some (.int m6), some (.int v5)]) (S' := [.int m5]) (w' := px_w K s2 t3) (q := []) 1 hM rfl trivial ?_
            have hK : px_E px_ET px_P 13 81 101 [some (.ref 28), some (.int u1), some (.int u2), none, some (.int u4), some (.int m5), some (.int m6), some (.int v5)] [.int (if ¬ m5 = 0 then (1 : Int32) else (if m6 < (4 : Int32) then (0 : Int32) else (1 : Int32)))] (px_w K s2 t3) o w2 := by
              refine px_blk (i' := 102) (L' := [some (.ref 28), some (.int u1), some (.int u2), none, some (.int u4), some (.int (if ¬ m5 = 0 then (1 : Int32) else (if m6 < (4 : Int32) then (0 : Int32) else (1 : Int32)))), some (.int m6), some (.int v5)]) (S' := []) (w' := px_w K s2 t3) (q := []) 1 hM rfl trivial ?_
              obtain ⟨v25, hv26, h⟩ := px_let_some h
              rw [← hv26]
              refine px_blk (i' := 77) (L' := [some (.ref 28), some (.int u1), some (.int u2), none, some (.int u4), some (.int v25), some (.int (m6 + (1 : Int32))), some (.int v5)]) (S' := []) (w' := px_w K s2 t3) (q := []) 3 hM rfl trivial ?_
              exact px_E_le (px_leC_L _ _ (by simp [px_leC, px_le1, Value.category])) (ih v25 (m6 + (1 : Int32)) s2 t3 z h o w2 ha)
            clear h
            refine px_blkif (c := ¬ m5 = 0) (t := 98) (e := 95) (L' := [some (.ref 28), some (.int u1), some (.int u2), none, some (.int u4), some (.int m5), some (.int m6), some (.int v5)]) (S' := []) (w' := px_w K s2 t3) (q := []) 1 hM rfl trivial (fun hc27 => ?_) (fun hc27 => ?_)
            · rw [if_pos hc27] at hK
              exact px_blk (i' := 101) (L' := [some (.ref 28), some (.int u1), some (.int u2), none, some (.int u4), some (.int m5), some (.int m6), some (.int v5)]) (S' := [.int (1 : Int32)]) (w' := px_w K s2 t3) (q := []) 2 hM rfl trivial hK
            · rw [if_neg hc27] at hK
              refine px_blkif (c := m6 < (4 : Int32)) (t := 100) (e := 98) (L' := [some (.ref 28), some (.int u1), some (.int u2), none, some (.int u4), some (.int m5), some (.int m6), some (.int v5)]) (S' := []) (w' := px_w K s2 t3) (q := []) 3 hM rfl trivial (fun hc28 => ?_) (fun hc28 => ?_)
              · rw [if_pos hc28] at hK
                exact px_blk (i' := 101) (L' := [some (.ref 28), some (.int u1), some (.int u2), none, some (.int u4), some (.int m5), some (.int m6), some (.int v5)]) (S' := [.int (0 : Int32)]) (w' := px_w K s2 t3) (q := []) 1 hM rfl trivial hK
              · rw [if_neg hc28] at hK
                exact px_blk (i' := 101) (L' := [some (.ref 28), some (.int u1), some (.int u2), none, some (.int u4), some (.int m5), some (.int m6), some (.int v5)]) (S' := [.int (1 : Int32)]) (w' := px_w K s2 t3) (q := []) 2 hM rfl trivial hK
        · rw [if_neg hc7] at h
          refine px_blk (i' := 77) (L' := [some (.ref 28), some (.int u1), some (.int u2), none, some (.int u4), some (.int m5), some (.int (m6 + (1 : Int32))), some (.int v5)]) (S' := []) (w' := px_w K s2 t3) (q := []) 3 hM rfl trivial ?_
          exact px_E_le (px_leC_L _ _ (by simp [px_leC, px_le1, Value.category])) (ih m5 (m6 + (1 : Int32)) s2 t3 z h o w2 ha)
      · cases h
set_option maxRecDepth 100000 in
theorem e_l_M_cut_28_58 (K : px_K) (N : Nat) (u1 : Int32) (u2 : Int32) (u3 : Int32) : ∀ (n : Nat) (m4 : Int32) (s : px_S) (t : px_W) (z : px_LO), l_M_cut_28_58 K N n u1 u2 u3 m4 s t = some z → ∀ (o : Option Value ⊕ Nat) (w2 : px_W), a_l_M_cut_28_58 K u1 u2 u3 z o w2 → px_E px_ET px_P 13 81 58 [some (.ref 28), some (.int u1), some (.int u2), some (.int u3), some (.int m4), none, none, none] [] (px_w K s t) o w2 := by
  have hM : px_P[81]? = some pm_M_cut := rfl
  intro n
  induction n with
  | zero => intro m4 s t z h; cases h
  | succ n ih =>
    intro m4 s t z h o w2 ha
    unfold l_M_cut_28_58 at h
    refine px_blkif (c := (16 : Int32) ≤ m4) (t := 68) (e := 61) (L' := [some (.ref 28), some (.int u1), some (.int u2), some (.int u3), some (.int m4), none, none, none]) (S' := []) (w' := px_w K s t) (q := []) 3 hM rfl trivial (fun hc1 => ?_) (fun hc1 => ?_)
    · rw [if_pos hc1] at h
      cases h
      exact px_E_le (px_leC_L _ _ (by simp [px_leC, px_le1, Value.category])) ha
    · rw [if_neg hc1] at h
      refine px_blk (i' := 65) (L' := [some (.ref 28), some (.int u1), some (.int u2), some (.int u3), some (.int m4), none, none, none]) (S' := [.int (0 : Int32), .int m4, .int u3, .ref 28]) (w' := px_w K s t) (q := []) 4 hM rfl trivial ?_
      rcases px_bv_some h with ⟨s2, t3, hk4, h⟩ | ⟨x6, s2, t3, hk4, h⟩
      · refine px_E_call hM rfl rfl rfl rfl (px_E_mono (by decide) (e_M_tell_28 K N u3 m4 (0 : Int32) s t _ hk4)) ?_
        refine px_blk (i' := 58) (L' := [some (.ref 28), some (.int u1), some (.int u2), some (.int u3), some (.int (m4 + (1 : Int32))), none, none, none]) (S' := []) (w' := px_w K s2 t3) (q := []) 2 hM rfl trivial ?_
        exact ih (m4 + (1 : Int32)) s2 t3 z h o w2 ha
      · cases h
noncomputable def f_M_cut_28 (K : px_K) (N : Nat) (a0 : Int32) (a1 : Int32) (s : px_S) (t : px_W) : Option px_Res :=
  (px_let (sR s 25 (0 : Int32)) (fun s1 => (px_bi (f_M_begins_28 K N s1 t) (fun v6 s3 t4 => (if ¬ v6 = 0 then (px_bi (f_M_isKind_28 K N a0 (2 : Int32) s3 t4) (fun v12 s9 t10 => (if v12 = 0 then (some (.inl (some (.int (-4 : Int32))), s9, t10)) else (if a1 < 0 then (some (.inl (some (.int (-4 : Int32))), s9, t10)) else (px_bi (f_M_ofInode_28 K N a0 (1 : Int32) s9 t10) (fun v19 s16 t17 => (if a1 ≤ v19 then (px_bi (f_M_ofInode_28 K N a0 (1 : Int32) s16 t17) (fun v25 s22 t23 => (if ¬ a1 = v25 then (if ¬ (a1 - a1 / (16 : Int32) * (16 : Int32)) = 0 then (px_bi (f_M_blockOf_28 K N a0 (a1 / (16 : Int32)) s22 t23) (fun v32 s29 t30 => (if v32 ≤ 0 then (px_bi (f_M_ofInode_28 K N a0 (6 : Int32) s29 t30) (fun v38 s35 t36 => (px_lp (l_M_cut_28_77 K N N a0 a1 v38 (0 : Int32) (0 : Int32) s35 t36) (fun i40 vs41 s42 t43 => (if i40 = 126 then (px_v1 vs41 (fun y46 => (if v38 ≤ 0 then (px_bv (f_M_tellInode_28 K N a0 (1 : Int32) a1 s42 t43) (fun s49 t50 => (some (.inl (some (.int (0 : Int32))), s49, t50))) (fun x53 s49 t50 => none)) else (if ¬ y46 = 0 then (px_bv (f_M_tellInode_28 K N a0 (1 : Int32) a1 s42 t43) (fun s55 t56 => (some (.inl (some (.int (0 : Int32))), s55, t56))) (fun x59 s55 t56 => none)) else (px_bv (f_M_giveBack_28 K N v38 s42 t43) (fun s60 t61 => (px_bv (f_M_tellInode_28 K N a0 (6 : Int32) (0 : Int32) s60 t61) (fun s65 t66 => (px_bv (f_M_tellInode_28 K N a0 (1 : Int32) a1 s65 t66) (fun s70 t71 => (some (.inl (some (.int (0 : Int32))), s70, t71))) (fun x74 s70 t71 => none))) (fun x69 s65 t66 => none))) (fun x64 s60 t61 => none)))))) else none)) (fun z45 => some z45))) (fun x39 s35 t36 => none)) else (px_bv (f_M_fetch_28 K N v32 s29 t30) (fun s75 t76 => (if ¬ (s75.1 29) = 0 then (px_let (a1 - a1 / (16 : Int32) * (16 : Int32)) (fun v81 => (px_lp (l_M_cut_28_58 K N N a0 a1 v32 v81 s75 t76) (fun i83 vs84 s85 t86 => (if i83 = 68 then (px_v0 vs84 (px_bi (f_M_ofInode_28 K N a0 (6 : Int32) s85 t86) (fun v93 s90 t91 => (px_lp (l_M_cut_28_77 K N N a0 a1 v93 (0 : Int32) (0 : Int32) s90 t91) (fun i95 vs96 s97 t98 => (if i95 = 126 then (px_v1 vs96 (fun y101 => (if v93 ≤ 0 then (px_bv (f_M_tellInode_28 K N a0 (1 : Int32) a1 s97 t98) (fun s104 t105 => (some (.inl (some (.int (0 : Int32))), s104, t105))) (fun x108 s104 t105 => none)) else (if ¬ y101 = 0 then (px_bv (f_M_tellInode_28 K N a0 (1 : Int32) a1 s97 t98) (fun s110 t111 => (some (.inl (some (.int (0 : Int32))), s110, t111))) (fun x114 s110 t111 => none)) else (px_bv (f_M_giveBack_28 K N v93 s97 t98) (fun s115 t116 => (px_bv (f_M_tellInode_28 K N a0 (6 : Int32) (0 : Int32) s115 t116) (fun s120 t121 => (px_bv (f_M_tellInode_28 K N a0 (1 : Int32) a1 s120 t121) (fun s125 t126 => (some (.inl (some (.int (0 : Int32))), s125, t126))) (fun x129 s125 t126 => none))) (fun x124 s120 t121 => none))) (fun x119 s115 t116 => none)))))) else none)) (fun z100 => some z100))) (fun x94 s90 t91 => none))) else none)) (fun z88 => some z88)))) else (some (.inl (some (.int (-9 : Int32))), s75, t76)))) (fun x79 s75 t76 => none)))) (fun x33 s29 t30 => none)) else (if (0 : Int32) ≤ 0 then (px_bi (f_M_ofInode_28 K N a0 (6 : Int32) s22 t23) (fun v134 s131 t132 => (px_lp (l_M_cut_28_77 K N N a0 a1 v134 (0 : Int32) (0 : Int32) s131 t132) (fun i136 vs137 s138 t139 => (if i136 = 126 then (px_v1 vs137 (fun y142 => (if v134 ≤ 0 then (px_bv (f_M_tellInode_28 K N a0 (1 : Int32) a1 s138 t139) (fun s145 t146 => (some (.inl (some (.int (0 : Int32))), s145, t146))) (fun x149 s145 t146 => none)) else (if ¬ y142 = 0 then (px_bv (f_M_tellInode_28 K N a0 (1 : Int32) a1 s138 t139) (fun s151 t152 => (some (.inl (some (.int (0 : Int32))), s151, t152))) (fun x155 s151 t152 => none)) else (px_bv (f_M_giveBack_28 K N v134 s138 t139) (fun s156 t157 => (px_bv (f_M_tellInode_28 K N a0 (6 : Int32) (0 : Int32) s156 t157) (fun s161 t162 => (px_bv (f_M_tellInode_28 K N a0 (1 : Int32) a1 s161 t162) (fun s166 t167 => (some (.inl (some (.int (0 : Int32))), s166, t167))) (fun x170 s166 t167 => none))) (fun x165 s161 t162 => none))) (fun x160 s156 t157 => none)))))) else none)) (fun z141 => some z141))) (fun x135 s131 t132 => none)) else (px_bv (f_M_fetch_28 K N (0 : Int32) s22 t23) (fun s171 t172 => (if ¬ (s171.1 29) = 0 then (px_let (a1 - a1 / (16 : Int32) * (16 : Int32)) (fun v177 => (px_lp (l_M_cut_28_58 K N N a0 a1 (0 : Int32) v177 s171 t172) (fun i179 vs180 s181 t182 => (if i179 = 68 then (px_v0 vs180 (px_bi (f_M_ofInode_28 K N a0 (6 : Int32) s181 t182) (fun v189 s186 t187 => (px_lp (l_M_cut_28_77 K N N a0 a1 v189 (0 : Int32) (0 : Int32) s186 t187) (fun i191 vs192 s193 t194 => (if i191 = 126 then (px_v1 vs192 (fun y197 => (if v189 ≤ 0 then (px_bv (f_M_tellInode_28 K N a0 (1 : Int32) a1 s193 t194) (fun s200 t201 => (some (.inl (some (.int (0 : Int32))), s200, t201))) (fun x204 s200 t201 => none)) else (if ¬ y197 = 0 then (px_bv (f_M_tellInode_28 K N a0 (1 : Int32) a1 s193 t194) (fun s206 t207 => (some (.inl (some (.int (0 : Int32))), s206, t207))) (fun x210 s206 t207 => none)) else (px_bv (f_M_giveBack_28 K N v189 s193 t194) (fun s211 t212 => (px_bv (f_M_tellInode_28 K N a0 (6 : Int32) (0 : Int32) s211 t212) (fun s216 t217 => (px_bv (f_M_tellInode_28 K N a0 (1 : Int32) a1 s216 t217) (fun s221 t222 => (some (.inl (some (.int (0 : Int32))), s221, t222))) (fun x225 s221 t222 => none))) (fun x220 s216 t217 => none))) (fun x215 s211 t212 => none)))))) else none)) (fun z196 => some z196))) (fun x190 s186 t187 => none))) else none)) (fun z184 => some z184)))) else (some (.inl (some (.int (-9 : Int32))), s171, t172)))) (fun x175 s171 t172 => none)))) else (some (.inl (some (.int (0 : Int32))), s22, t23)))) (fun x26 s22 t23 => none)) else (some (.inl (some (.int (-4 : Int32))), s16, t17)))) (fun x20 s16 t17 => none))))) (fun x13 s9 t10 => none)) else (some (.inl (some (.int (-9 : Int32))), s3, t4)))) (fun x7 s3 t4 => none))))
set_option maxRecDepth 100000 in
theorem e_M_cut_28 (K : px_K) (N : Nat) (a0 : Int32) (a1 : Int32) (s : px_S) (t : px_W) (r : px_Res) (h : f_M_cut_28 K N a0 a1 s t = some r) : px_E px_ET px_P 13 81 0 (px_ent 8 [.ref 28, .int a0, .int a1]) [] (px_w K s t) r.1 (px_w K r.2.1 r.2.2) := by
  have hM : px_P[81]? = some pm_M_cut := rfl
  unfold f_M_cut_28 at h
  refine px_blk (i' := 3) (L' := [some (.ref 28), some (.int a0), some (.int a1), none, none, none, none, none]) (S' := []) (w' := px_w K (sR s 25 (0 : Int32)) t) (q := []) 3 hM rfl trivial ?_
  obtain ⟨s1, hs2, h⟩ := px_let_some h
  rw [← hs2]
  refine px_blk (i' := 4) (L' := [some (.ref 28), some (.int a0), some (.int a1), none, none, none, none, none]) (S' := [.ref 28]) (w' := px_w K s1 t) (q := []) 1 hM rfl trivial ?_
  rcases px_bi_some h with ⟨v6, s3, t4, hk5, h⟩ | ⟨x7, s3, t4, hk5, h⟩
  · refine px_E_call hM rfl rfl rfl rfl (px_E_mono (by decide) (e_M_begins_28 K N s1 t _ hk5)) ?_
    refine px_blkif (c := ¬ v6 = 0) (t := 8) (e := 6) (L' := [some (.ref 28), some (.int a0), some (.int a1), none, none, none, none, none]) (S' := []) (w' := px_w K s3 t4) (q := []) 1 hM rfl trivial (fun hc8 => ?_) (fun hc8 => ?_)
    · rw [if_pos hc8] at h
      refine px_blk (i' := 11) (L' := [some (.ref 28), some (.int a0), some (.int a1), none, none, none, none, none]) (S' := [.int (2 : Int32), .int a0, .ref 28]) (w' := px_w K s3 t4) (q := []) 3 hM rfl trivial ?_
      rcases px_bi_some h with ⟨v12, s9, t10, hk11, h⟩ | ⟨x13, s9, t10, hk11, h⟩
      · refine px_E_call hM rfl rfl rfl rfl (px_E_mono (by decide) (e_M_isKind_28 K N a0 (2 : Int32) s3 t4 _ hk11)) ?_
        refine px_blkif (c := v12 = 0) (t := 21) (e := 13) (L' := [some (.ref 28), some (.int a0), some (.int a1), none, none, none, none, none]) (S' := []) (w' := px_w K s9 t10) (q := []) 1 hM rfl trivial (fun hc14 => ?_) (fun hc14 => ?_)
        · rw [if_pos hc14] at h
          refine px_blk (i' := 22) (L' := [some (.ref 28), some (.int a0), some (.int a1), none, none, none, none, none]) (S' := [.int (-4 : Int32)]) (w' := px_w K s9 t10) (q := []) 1 hM rfl trivial ?_
          cases h
          exact px_E_ret hM rfl rfl rfl trivial
        · rw [if_neg hc14] at h
          refine px_blkif (c := a1 < 0) (t := 21) (e := 15) (L' := [some (.ref 28), some (.int a0), some (.int a1), none, none, none, none, none]) (S' := []) (w' := px_w K s9 t10) (q := []) 2 hM rfl trivial (fun hc15 => ?_) (fun hc15 => ?_)
          · rw [if_pos hc15] at h
            refine px_blk (i' := 22) (L' := [some (.ref 28), some (.int a0), some (.int a1), none, none, none, none, none]) (S' := [.int (-4 : Int32)]) (w' := px_w K s9 t10) (q := []) 1 hM rfl trivial ?_
            cases h
            exact px_E_ret hM rfl rfl rfl trivial
          · rw [if_neg hc15] at h
            refine px_blk (i' := 19) (L' := [some (.ref 28), some (.int a0), some (.int a1), none, none, none, none, none]) (S' := [.int (1 : Int32), .int a0, .ref 28, .int a1]) (w' := px_w K s9 t10) (q := []) 4 hM rfl trivial ?_
            rcases px_bi_some h with ⟨v19, s16, t17, hk18, h⟩ | ⟨x20, s16, t17, hk18, h⟩
            · refine px_E_call hM rfl rfl rfl rfl (px_E_mono (by decide) (e_M_ofInode_28 K N a0 (1 : Int32) s9 t10 _ hk18)) ?_
              refine px_blkif (c := a1 ≤ v19) (t := 23) (e := 21) (L' := [some (.ref 28), some (.int a0), some (.int a1), none, none, none, none, none]) (S' := []) (w' := px_w K s16 t17) (q := []) 1 hM rfl trivial (fun hc21 => ?_) (fun hc21 => ?_)
              · rw [if_pos hc21] at h
                refine px_blk (i' := 27) (L' := [some (.ref 28), some (.int a0), some (.int a1), none, none, none, none, none]) (S' := [.int (1 : Int32), .int a0, .ref 28, .int a1]) (w' := px_w K s16 t17) (q := []) 4 hM rfl trivial ?_
                rcases px_bi_some h with ⟨v25, s22, t23, hk24, h⟩ | ⟨x26, s22, t23, hk24, h⟩
                · refine px_E_call hM rfl rfl rfl rfl (px_E_mono (by decide) (e_M_ofInode_28 K N a0 (1 : Int32) s16 t17 _ hk24)) ?_
                  refine px_blkif (c := ¬ a1 = v25) (t := 31) (e := 29) (L' := [some (.ref 28), some (.int a0), some (.int a1), none, none, none, none, none]) (S' := []) (w' := px_w K s22 t23) (q := []) 1 hM rfl trivial (fun hc27 => ?_) (fun hc27 => ?_)
                  · rw [if_pos hc27] at h
                    refine px_blkif (c := ¬ (a1 - a1 / (16 : Int32) * (16 : Int32)) = 0) (t := 37) (e := 35) (L' := [some (.ref 28), some (.int a0), some (.int a1), none, none, none, none, none]) (S' := []) (w' := px_w K s22 t23) (q := [¬ (16 : Int32) = 0]) 4 hM rfl (show ¬ (16 : Int32) = 0 from (by decide)) (fun hc28 => ?_) (fun hc28 => ?_)
                    · rw [if_pos hc28] at h
                      refine px_blk (i' := 42) (L' := [some (.ref 28), some (.int a0), some (.int a1), none, none, none, none, none]) (S' := [.int (a1 / (16 : Int32)), .int a0, .ref 28]) (w' := px_w K s22 t23) (q := [¬ (16 : Int32) = 0]) 5 hM rfl (show ¬ (16 : Int32) = 0 from (by decide)) ?_
                      rcases px_bi_some h with ⟨v32, s29, t30, hk31, h⟩ | ⟨x33, s29, t30, hk31, h⟩
                      · refine px_E_call hM rfl rfl rfl rfl (px_E_mono (by decide) (e_M_blockOf_28 K N a0 (a1 / (16 : Int32)) s22 t23 _ hk31)) ?_
                        refine px_blkif (c := v32 ≤ 0) (t := 68) (e := 46) (L' := [some (.ref 28), some (.int a0), some (.int a1), some (.int v32), none, none, none, none]) (S' := []) (w' := px_w K s29 t30) (q := []) 3 hM rfl trivial (fun hc34 => ?_) (fun hc34 => ?_)
                        · rw [if_pos hc34] at h
                          refine px_blk (i' := 71) (L' := [some (.ref 28), some (.int a0), some (.int a1), some (.int v32), none, none, none, none]) (S' := [.int (6 : Int32), .int a0, .ref 28]) (w' := px_w K s29 t30) (q := []) 3 hM rfl trivial ?_
                          rcases px_bi_some h with ⟨v38, s35, t36, hk37, h⟩ | ⟨x39, s35, t36, hk37, h⟩
                          · refine px_E_call hM rfl rfl rfl rfl (px_E_mono (by decide) (e_M_ofInode_28 K N a0 (6 : Int32) s29 t30 _ hk37)) ?_
                            refine px_blk (i' := 77) (L' := [some (.ref 28), some (.int a0), some (.int a1), some (.int v32), some (.int v38), some (.int (0 : Int32)), some (.int (0 : Int32)), none]) (S' := []) (w' := px_w K s35 t36) (q := []) 5 hM rfl trivial ?_
                            rcases px_lp_some h with ⟨i40, vs41, s42, t43, hl44, h⟩ | ⟨z45, hl44, h⟩
                            · by_cases hi47 : i40 = 126
                              · subst hi47
                                rw [if_pos rfl] at h
                                have h9 := px_v1_some h
                                clear h
                                obtain ⟨y46, rfl, h⟩ := h9
                                refine px_E_le (px_leC_L _ _ (by simp [px_leC, px_le1, Value.category])) (e_l_M_cut_28_77 K N a0 a1 v38 N (0 : Int32) (0 : Int32) s35 t36 _ hl44 _ _ ?_)
                                show px_E px_ET px_P 13 81 126 [some (.ref 28), some (.int a0), some (.int a1), none, some (.int v38), some (.int y46), none, none] [] (px_w K s42 t43) _ _
                                refine px_blkif (c := v38 ≤ 0) (t := 138) (e := 128) (L' := [some (.ref 28), some (.int a0), some (.int a1), none, some (.int v38), some (.int y46), none, none]) (S' := []) (w' := px_w K s42 t43) (q := []) 2 hM rfl trivial (fun hc48 => ?_) (fun hc48 => ?_)
                                · rw [if_pos hc48] at h
                                  refine px_blk (i' := 142) (L' := [some (.ref 28), some (.int a0), some (.int a1), none, some (.int v38), some (.int y46), none, none]) (S' := [.int a1, .int (1 : Int32), .int a0, .ref 28]) (w' := px_w K s42 t43) (q := []) 4 hM rfl trivial ?_
                                  rcases px_bv_some h with ⟨s49, t50, hk51, h⟩ | ⟨x53, s49, t50, hk51, h⟩
                                  · refine px_E_call hM rfl rfl rfl rfl (px_E_mono (by decide) (e_M_tellInode_28 K N a0 (1 : Int32) a1 s42 t43 _ hk51)) ?_
                                    refine px_blk (i' := 144) (L' := [some (.ref 28), some (.int a0), some (.int a1), none, some (.int v38), some (.int y46), none, none]) (S' := [.int (0 : Int32)]) (w' := px_w K s49 t50) (q := []) 1 hM rfl trivial ?_
                                    cases h
                                    exact px_E_ret hM rfl rfl rfl trivial
                                  · cases h
                                · rw [if_neg hc48] at h
                                  refine px_blkif (c := ¬ y46 = 0) (t := 138) (e := 130) (L' := [some (.ref 28), some (.int a0), some (.int a1), none, some (.int v38), some (.int y46), none, none]) (S' := []) (w' := px_w K s42 t43) (q := []) 2 hM rfl trivial (fun hc54 => ?_) (fun hc54 => ?_)
                                  · rw [if_pos hc54] at h
                                    refine px_blk (i' := 142) (L' := [some (.ref 28), some (.int a0), some (.int a1), none, some (.int v38), some (.int y46), none, none]) (S' := [.int a1, .int (1 : Int32), .int a0, .ref 28]) (w' := px_w K s42 t43) (q := []) 4 hM rfl trivial ?_
                                    rcases px_bv_some h with ⟨s55, t56, hk57, h⟩ | ⟨x59, s55, t56, hk57, h⟩
                                    · refine px_E_call hM rfl rfl rfl rfl (px_E_mono (by decide) (e_M_tellInode_28 K N a0 (1 : Int32) a1 s42 t43 _ hk57)) ?_
                                      refine px_blk (i' := 144) (L' := [some (.ref 28), some (.int a0), some (.int a1), none, some (.int v38), some (.int y46), none, none]) (S' := [.int (0 : Int32)]) (w' := px_w K s55 t56) (q := []) 1 hM rfl trivial ?_
                                      cases h
                                      exact px_E_ret hM rfl rfl rfl trivial
                                    · cases h
                                  · rw [if_neg hc54] at h
                                    refine px_blk (i' := 132) (L' := [some (.ref 28), some (.int a0), some (.int a1), none, some (.int v38), some (.int y46), none, none]) (S' := [.int v38, .ref 28]) (w' := px_w K s42 t43) (q := []) 2 hM rfl trivial ?_
                                    rcases px_bv_some h with ⟨s60, t61, hk62, h⟩ | ⟨x64, s60, t61, hk62, h⟩
                                    · refine px_E_call hM rfl rfl rfl rfl (px_E_mono (by decide) (e_M_giveBack_28 K N v38 s42 t43 _ hk62)) ?_
                                      refine px_blk (i' := 137) (L' := [some (.ref 28), some (.int a0), some (.int a1), none, some (.int v38), some (.int y46), none, none]) (S' := [.int (0 : Int32), .int (6 : Int32), .int a0, .ref 28]) (w' := px_w K s60 t61) (q := []) 4 hM rfl trivial ?_
                                      rcases px_bv_some h with ⟨s65, t66, hk67, h⟩ | ⟨x69, s65, t66, hk67, h⟩
                                      · refine px_E_call hM rfl rfl rfl rfl (px_E_mono (by decide) (e_M_tellInode_28 K N a0 (6 : Int32) (0 : Int32) s60 t61 _ hk67)) ?_
                                        refine px_blk (i' := 142) (L' := [some (.ref 28), some (.int a0), some (.int a1), none, some (.int v38), some (.int y46), none, none]) (S' := [.int a1, .int (1 : Int32), .int a0, .ref 28]) (w' := px_w K s65 t66) (q := []) 4 hM rfl trivial ?_
                                        rcases px_bv_some h with ⟨s70, t71, hk72, h⟩ | ⟨x74, s70, t71, hk72, h⟩
                                        · refine px_E_call hM rfl rfl rfl rfl (px_E_mono (by decide) (e_M_tellInode_28 K N a0 (1 : Int32) a1 s65 t66 _ hk72)) ?_
                                          refine px_blk (i' := 144) (L' := [some (.ref 28), some (.int a0), some (.int a1), none, some (.int v38), some (.int y46), none, none]) (S' := [.int (0 : Int32)]) (w' := px_w K s70 t71) (q := []) 1 hM rfl trivial ?_
                                          cases h
                                          exact px_E_ret hM rfl rfl rfl trivial
                                        · cases h
                                      · cases h
                                    · cases h
                              · rw [if_neg hi47] at h
                                cases h
                            · cases h
                              exact px_E_le (px_leC_L _ _ (by simp [px_leC, px_le1, Value.category])) (e_l_M_cut_28_77 K N a0 a1 v38 N (0 : Int32) (0 : Int32) s35 t36 _ hl44 _ _ ⟨rfl, rfl⟩)
                          · cases h
                        · rw [if_neg hc34] at h
                          refine px_blk (i' := 48) (L' := [some (.ref 28), some (.int a0), some (.int a1), some (.int v32), none, none, none, none]) (S' := [.int v32, .ref 28]) (w' := px_w K s29 t30) (q := []) 2 hM rfl trivial ?_
                          rcases px_bv_some h with ⟨s75, t76, hk77, h⟩ | ⟨x79, s75, t76, hk77, h⟩
                          · refine px_E_call hM rfl rfl rfl rfl (px_E_mono (by decide) (e_M_fetch_28 K N v32 s29 t30 _ hk77)) ?_
                            refine px_blkif (c := ¬ (s75.1 29) = 0) (t := 54) (e := 52) (L' := [some (.ref 28), some (.int a0), some (.int a1), some (.int v32), none, none, none, none]) (S' := []) (w' := px_w K s75 t76) (q := []) 3 hM rfl trivial (fun hc80 => ?_) (fun hc80 => ?_)
                            · rw [if_pos hc80] at h
                              refine px_blk (i' := 58) (L' := [some (.ref 28), some (.int a0), some (.int a1), some (.int v32), some (.int (a1 - a1 / (16 : Int32) * (16 : Int32))), none, none, none]) (S' := []) (w' := px_w K s75 t76) (q := [¬ (16 : Int32) = 0]) 4 hM rfl (show ¬ (16 : Int32) = 0 from (by decide)) ?_
                              obtain ⟨v81, hv82, h⟩ := px_let_some h
                              rw [← hv82]
                              rcases px_lp_some h with ⟨i83, vs84, s85, t86, hl87, h⟩ | ⟨z88, hl87, h⟩
                              · by_cases hi89 : i83 = 68
                                · subst hi89
                                  rw [if_pos rfl] at h
                                  have h9 := px_v0_some h
                                  clear h
                                  obtain ⟨rfl, h⟩ := h9
                                  refine e_l_M_cut_28_58 K N a0 a1 v32 N v81 s75 t76 _ hl87 _ _ ?_
                                  show px_E px_ET px_P 13 81 68 [some (.ref 28), some (.int a0), some (.int a1), none, none, none, none, none] [] (px_w K s85 t86) _ _
                                  refine px_blk (i' := 71) (L' := [some (.ref 28), some (.int a0), some (.int a1), none, none, none, none, none]) (S' := [.int (6 : Int32), .int a0, .ref 28]) (w' := px_w K s85 t86) (q := []) 3 hM rfl trivial ?_
                                  rcases px_bi_some h with ⟨v93, s90, t91, hk92, h⟩ | ⟨x94, s90, t91, hk92, h⟩
                                  · refine px_E_call hM rfl rfl rfl rfl (px_E_mono (by decide) (e_M_ofInode_28 K N a0 (6 : Int32) s85 t86 _ hk92)) ?_
                                    refine px_blk (i' := 77) (L' := [some (.ref 28), some (.int a0), some (.int a1), none, some (.int v93), some (.int (0 : Int32)), some (.int (0 : Int32)), none]) (S' := []) (w' := px_w K s90 t91) (q := []) 5 hM rfl trivial ?_
                                    rcases px_lp_some h with ⟨i95, vs96, s97, t98, hl99, h⟩ | ⟨z100, hl99, h⟩
                                    · by_cases hi102 : i95 = 126
                                      · subst hi102
                                        rw [if_pos rfl] at h
                                        have h9 := px_v1_some h
                                        clear h
                                        obtain ⟨y101, rfl, h⟩ := h9
                                        refine e_l_M_cut_28_77 K N a0 a1 v93 N (0 : Int32) (0 : Int32) s90 t91 _ hl99 _ _ ?_
                                        show px_E px_ET px_P 13 81 126 [some (.ref 28), some (.int a0), some (.int a1), none, some (.int v93), some (.int y101), none, none] [] (px_w K s97 t98) _ _
                                        refine px_blkif (c := v93 ≤ 0) (t := 138) (e := 128) (L' := [some (.ref 28), some (.int a0), some (.int a1), none, some (.int v93), some (.int y101), none, none]) (S' := []) (w' := px_w K s97 t98) (q := []) 2 hM rfl trivial (fun hc103 => ?_) (fun hc103 => ?_)
                                        · rw [if_pos hc103] at h
                                          refine px_blk (i' := 142) (L' := [some (.ref 28), some (.int a0), some (.int a1), none, some (.int v93), some (.int y101), none, none]) (S' := [.int a1, .int (1 : Int32), .int a0, .ref 28]) (w' := px_w K s97 t98) (q := []) 4 hM rfl trivial ?_
                                          rcases px_bv_some h with ⟨s104, t105, hk106, h⟩ | ⟨x108, s104, t105, hk106, h⟩
                                          · refine px_E_call hM rfl rfl rfl rfl (px_E_mono (by decide) (e_M_tellInode_28 K N a0 (1 : Int32) a1 s97 t98 _ hk106)) ?_
                                            refine px_blk (i' := 144) (L' := [some (.ref 28), some (.int a0), some (.int a1), none, some (.int v93), some (.int y101), none, none]) (S' := [.int (0 : Int32)]) (w' := px_w K s104 t105) (q := []) 1 hM rfl trivial ?_
                                            cases h
                                            exact px_E_ret hM rfl rfl rfl trivial
                                          · cases h
                                        · rw [if_neg hc103] at h
                                          refine px_blkif (c := ¬ y101 = 0) (t := 138) (e := 130) (L' := [some (.ref 28), some (.int a0), some (.int a1), none, some (.int v93), some (.int y101), none, none]) (S' := []) (w' := px_w K s97 t98) (q := []) 2 hM rfl trivial (fun hc109 => ?_) (fun hc109 => ?_)
                                          · rw [if_pos hc109] at h
                                            refine px_blk (i' := 142) (L' := [some (.ref 28), some (.int a0), some (.int a1), none, some (.int v93), some (.int y101), none, none]) (S' := [.int a1, .int (1 : Int32), .int a0, .ref 28]) (w' := px_w K s97 t98) (q := []) 4 hM rfl trivial ?_
                                            rcases px_bv_some h with ⟨s110, t111, hk112, h⟩ | ⟨x114, s110, t111, hk112, h⟩
                                            · refine px_E_call hM rfl rfl rfl rfl (px_E_mono (by decide) (e_M_tellInode_28 K N a0 (1 : Int32) a1 s97 t98 _ hk112)) ?_
                                              refine px_blk (i' := 144) (L' := [some (.ref 28), some (.int a0), some (.int a1), none, some (.int v93), some (.int y101), none, none]) (S' := [.int (0 : Int32)]) (w' := px_w K s110 t111) (q := []) 1 hM rfl trivial ?_
                                              cases h
                                              exact px_E_ret hM rfl rfl rfl trivial
                                            · cases h
                                          · rw [if_neg hc109] at h
                                            refine px_blk (i' := 132) (L' := [some (.ref 28), some (.int a0), some (.int a1), none, some (.int v93), some (.int y101), none, none]) (S' := [.int v93, .ref 28]) (w' := px_w K s97 t98) (q := []) 2 hM rfl trivial ?_
                                            rcases px_bv_some h with ⟨s115, t116, hk117, h⟩ | ⟨x119, s115, t116, hk117, h⟩
                                            · refine px_E_call hM rfl rfl rfl rfl (px_E_mono (by decide) (e_M_giveBack_28 K N v93 s97 t98 _ hk117)) ?_
                                              refine px_blk (i' := 137) (L' := [some (.ref 28), some (.int a0), some (.int a1), none, some (.int v93), some (.int y101), none, none]) (S' := [.int (0 : Int32), .int (6 : Int32), .int a0, .ref 28]) (w' := px_w K s115 t116) (q := []) 4 hM rfl trivial ?_
                                              rcases px_bv_some h with ⟨s120, t121, hk122, h⟩ | ⟨x124, s120, t121, hk122, h⟩
                                              · refine px_E_call hM rfl rfl rfl rfl (px_E_mono (by decide) (e_M_tellInode_28 K N a0 (6 : Int32) (0 : Int32) s115 t116 _ hk122)) ?_
                                                refine px_blk (i' := 142) (L' := [some (.ref 28), some (.int a0), some (.int a1), none, some (.int v93), some (.int y101), none, none]) (S' := [.int a1, .int (1 : Int32), .int a0, .ref 28]) (w' := px_w K s120 t121) (q := []) 4 hM rfl trivial ?_
                                                rcases px_bv_some h with ⟨s125, t126, hk127, h⟩ | ⟨x129, s125, t126, hk127, h⟩
                                                · refine px_E_call hM rfl rfl rfl rfl (px_E_mono (by decide) (e_M_tellInode_28 K N a0 (1 : Int32) a1 s120 t121 _ hk127)) ?_
                                                  refine px_blk (i' := 144) (L' := [some (.ref 28), some (.int a0), some (.int a1), none, some (.int v93), some (.int y101), none, none]) (S' := [.int (0 : Int32)]) (w' := px_w K s125 t126) (q := []) 1 hM rfl trivial ?_
                                                  cases h
                                                  exact px_E_ret hM rfl rfl rfl trivial
                                                · cases h
                                              · cases h
                                            · cases h
                                      · rw [if_neg hi102] at h
                                        cases h
                                    · cases h
                                      exact e_l_M_cut_28_77 K N a0 a1 v93 N (0 : Int32) (0 : Int32) s90 t91 _ hl99 _ _ ⟨rfl, rfl⟩
                                  · cases h
                                · rw [if_neg hi89] at h
                                  cases h
                              · cases h
                                exact e_l_M_cut_28_58 K N a0 a1 v32 N v81 s75 t76 _ hl87 _ _ ⟨rfl, rfl⟩
                            · rw [if_neg hc80] at h
                              refine px_blk (i' := 53) (L' := [some (.ref 28), some (.int a0), some (.int a1), some (.int v32), none, none, none, none]) (S' := [.int (-9 : Int32)]) (w' := px_w K s75 t76) (q := []) 1 hM rfl trivial ?_
                              cases h
                              exact px_E_ret hM rfl rfl rfl trivial
                          · cases h
                      · cases h
                    · rw [if_neg hc28] at h
                      refine px_blkif (c := (0 : Int32) ≤ 0) (t := 68) (e := 46) (L' := [some (.ref 28), some (.int a0), some (.int a1), some (.int (0 : Int32)), none, none, none, none]) (S' := []) (w' := px_w K s22 t23) (q := []) 5 hM rfl trivial (fun hc130 => ?_) (fun hc130 => ?_)
                      · rw [if_pos hc130] at h
                        refine px_blk (i' := 71) (L' := [some (.ref 28), some (.int a0), some (.int a1), some (.int (0 : Int32)), none, none, none, none]) (S' := [.int (6 : Int32), .int a0, .ref 28]) (w' := px_w K s22 t23) (q := []) 3 hM rfl trivial ?_
                        rcases px_bi_some h with ⟨v134, s131, t132, hk133, h⟩ | ⟨x135, s131, t132, hk133, h⟩
                        · refine px_E_call hM rfl rfl rfl rfl (px_E_mono (by decide) (e_M_ofInode_28 K N a0 (6 : Int32) s22 t23 _ hk133)) ?_
                          refine px_blk (i' := 77) (L' := [some (.ref 28), some (.int a0), some (.int a1), some (.int (0 : Int32)), some (.int v134), some (.int (0 : Int32)), some (.int (0 : Int32)), none]) (S' := []) (w' := px_w K s131 t132) (q := []) 5 hM rfl trivial ?_
                          rcases px_lp_some h with ⟨i136, vs137, s138, t139, hl140, h⟩ | ⟨z141, hl140, h⟩
                          · by_cases hi143 : i136 = 126
                            · subst hi143
                              rw [if_pos rfl] at h
                              have h9 := px_v1_some h
                              clear h
                              obtain ⟨y142, rfl, h⟩ := h9
                              refine px_E_le (px_leC_L _ _ (by simp [px_leC, px_le1, Value.category])) (e_l_M_cut_28_77 K N a0 a1 v134 N (0 : Int32) (0 : Int32) s131 t132 _ hl140 _ _ ?_)
                              show px_E px_ET px_P 13 81 126 [some (.ref 28), some (.int a0), some (.int a1), none, some (.int v134), some (.int y142), none, none] [] (px_w K s138 t139) _ _
                              refine px_blkif (c := v134 ≤ 0) (t := 138) (e := 128) (L' := [some (.ref 28), some (.int a0), some (.int a1), none, some (.int v134), some (.int y142), none, none]) (S' := []) (w' := px_w K s138 t139) (q := []) 2 hM rfl trivial (fun hc144 => ?_) (fun hc144 => ?_)
                              · rw [if_pos hc144] at h
                                refine px_blk (i' := 142) (L' := [some (.ref 28), some (.int a0), some (.int a1), none, some (.int v134), some (.int y142), none, none]) (S' := [.int a1, .int (1 : Int32), .int a0, .ref 28]) (w' := px_w K s138 t139) (q := []) 4 hM rfl trivial ?_
                                rcases px_bv_some h with ⟨s145, t146, hk147, h⟩ | ⟨x149, s145, t146, hk147, h⟩
                                · refine px_E_call hM rfl rfl rfl rfl (px_E_mono (by decide) (e_M_tellInode_28 K N a0 (1 : Int32) a1 s138 t139 _ hk147)) ?_
                                  refine px_blk (i' := 144) (L' := [some (.ref 28), some (.int a0), some (.int a1), none, some (.int v134), some (.int y142), none, none]) (S' := [.int (0 : Int32)]) (w' := px_w K s145 t146) (q := []) 1 hM rfl trivial ?_
                                  cases h
                                  exact px_E_ret hM rfl rfl rfl trivial
                                · cases h
                              · rw [if_neg hc144] at h
                                refine px_blkif (c := ¬ y142 = 0) (t := 138) (e := 130) (L' := [some (.ref 28), some (.int a0), some (.int a1), none, some (.int v134), some (.int y142), none, none]) (S' := []) (w' := px_w K s138 t139) (q := []) 2 hM rfl trivial (fun hc150 => ?_) (fun hc150 => ?_)
                                · rw [if_pos hc150] at h
                                  refine px_blk (i' := 142) (L' := [some (.ref 28), some (.int a0), some (.int a1), none, some (.int v134), some (.int y142), none, none]) (S' := [.int a1, .int (1 : Int32), .int a0, .ref 28]) (w' := px_w K s138 t139) (q := []) 4 hM rfl trivial ?_
                                  rcases px_bv_some h with ⟨s151, t152, hk153, h⟩ | ⟨x155, s151, t152, hk153, h⟩
                                  · refine px_E_call hM rfl rfl rfl rfl (px_E_mono (by decide) (e_M_tellInode_28 K N a0 (1 : Int32) a1 s138 t139 _ hk153)) ?_
                                    refine px_blk (i' := 144) (L' := [some (.ref 28), some (.int a0), some (.int a1), none, some (.int v134), some (.int y142), none, none]) (S' := [.int (0 : Int32)]) (w' := px_w K s151 t152) (q := []) 1 hM rfl trivial ?_
                                    cases h
                                    exact px_E_ret hM rfl rfl rfl trivial
                                  · cases h
                                · rw [if_neg hc150] at h
                                  refine px_blk (i' := 132) (L' := [some (.ref 28), some (.int a0), some (.int a1), none, some (.int v134), some (.int y142), none, none]) (S' := [.int v134, .ref 28]) (w' := px_w K s138 t139) (q := []) 2 hM rfl trivial ?_
                                  rcases px_bv_some h with ⟨s156, t157, hk158, h⟩ | ⟨x160, s156, t157, hk158, h⟩
                                  · refine px_E_call hM rfl rfl rfl rfl (px_E_mono (by decide) (e_M_giveBack_28 K N v134 s138 t139 _ hk158)) ?_
                                    refine px_blk (i' := 137) (L' := [some (.ref 28), some (.int a0), some (.int a1), none, some (.int v134), some (.int y142), none, none]) (S' := [.int (0 : Int32), .int (6 : Int32), .int a0, .ref 28]) (w' := px_w K s156 t157) (q := []) 4 hM rfl trivial ?_
                                    rcases px_bv_some h with ⟨s161, t162, hk163, h⟩ | ⟨x165, s161, t162, hk163, h⟩
                                    · refine px_E_call hM rfl rfl rfl rfl (px_E_mono (by decide) (e_M_tellInode_28 K N a0 (6 : Int32) (0 : Int32) s156 t157 _ hk163)) ?_
                                      refine px_blk (i' := 142) (L' := [some (.ref 28), some (.int a0), some (.int a1), none, some (.int v134), some (.int y142), none, none]) (S' := [.int a1, .int (1 : Int32), .int a0, .ref 28]) (w' := px_w K s161 t162) (q := []) 4 hM rfl trivial ?_
                                      rcases px_bv_some h with ⟨s166, t167, hk168, h⟩ | ⟨x170, s166, t167, hk168, h⟩
                                      · refine px_E_call hM rfl rfl rfl rfl (px_E_mono (by decide) (e_M_tellInode_28 K N a0 (1 : Int32) a1 s161 t162 _ hk168)) ?_
                                        refine px_blk (i' := 144) (L' := [some (.ref 28), some (.int a0), some (.int a1), none, some (.int v134), some (.int y142), none, none]) (S' := [.int (0 : Int32)]) (w' := px_w K s166 t167) (q := []) 1 hM rfl trivial ?_
                                        cases h
                                        exact px_E_ret hM rfl rfl rfl trivial
                                      · cases h
                                    · cases h
                                  · cases h
                            · rw [if_neg hi143] at h
                              cases h
                          · cases h
                            exact px_E_le (px_leC_L _ _ (by simp [px_leC, px_le1, Value.category])) (e_l_M_cut_28_77 K N a0 a1 v134 N (0 : Int32) (0 : Int32) s131 t132 _ hl140 _ _ ⟨rfl, rfl⟩)
                        · cases h
                      · rw [if_neg hc130] at h
                        refine px_blk (i' := 48) (L' := [some (.ref 28), some (.int a0), some (.int a1), some (.int (0 : Int32)), none, none, none, none]) (S' := [.int (0 : Int32), .ref 28]) (w' := px_w K s22 t23) (q := []) 2 hM rfl trivial ?_
                        rcases px_bv_some h with ⟨s171, t172, hk173, h⟩ | ⟨x175, s171, t172, hk173, h⟩
                        · refine px_E_call hM rfl rfl rfl rfl (px_E_mono (by decide) (e_M_fetch_28 K N (0 : Int32) s22 t23 _ hk173)) ?_
                          refine px_blkif (c := ¬ (s171.1 29) = 0) (t := 54) (e := 52) (L' := [some (.ref 28), some (.int a0), some (.int a1), some (.int (0 : Int32)), none, none, none, none]) (S' := []) (w' := px_w K s171 t172) (q := []) 3 hM rfl trivial (fun hc176 => ?_) (fun hc176 => ?_)
                          · rw [if_pos hc176] at h
                            refine px_blk (i' := 58) (L' := [some (.ref 28), some (.int a0), some (.int a1), some (.int (0 : Int32)), some (.int (a1 - a1 / (16 : Int32) * (16 : Int32))), none, none, none]) (S' := []) (w' := px_w K s171 t172) (q := [¬ (16 : Int32) = 0]) 4 hM rfl (show ¬ (16 : Int32) = 0 from (by decide)) ?_
                            obtain ⟨v177, hv178, h⟩ := px_let_some h
                            rw [← hv178]
                            rcases px_lp_some h with ⟨i179, vs180, s181, t182, hl183, h⟩ | ⟨z184, hl183, h⟩
                            · by_cases hi185 : i179 = 68
                              · subst hi185
                                rw [if_pos rfl] at h
                                have h9 := px_v0_some h
                                clear h
                                obtain ⟨rfl, h⟩ := h9
                                refine e_l_M_cut_28_58 K N a0 a1 (0 : Int32) N v177 s171 t172 _ hl183 _ _ ?_
                                show px_E px_ET px_P 13 81 68 [some (.ref 28), some (.int a0), some (.int a1), none, none, none, none, none] [] (px_w K s181 t182) _ _
                                refine px_blk (i' := 71) (L' := [some (.ref 28), some (.int a0), some (.int a1), none, none, none, none, none]) (S' := [.int (6 : Int32), .int a0, .ref 28]) (w' := px_w K s181 t182) (q := []) 3 hM rfl trivial ?_
                                rcases px_bi_some h with ⟨v189, s186, t187, hk188, h⟩ | ⟨x190, s186, t187, hk188, h⟩
                                · refine px_E_call hM rfl rfl rfl rfl (px_E_mono (by decide) (e_M_ofInode_28 K N a0 (6 : Int32) s181 t182 _ hk188)) ?_
                                  refine px_blk (i' := 77) (L' := [some (.ref 28), some (.int a0), some (.int a1), none, some (.int v189), some (.int (0 : Int32)), some (.int (0 : Int32)), none]) (S' := []) (w' := px_w K s186 t187) (q := []) 5 hM rfl trivial ?_
                                  rcases px_lp_some h with ⟨i191, vs192, s193, t194, hl195, h⟩ | ⟨z196, hl195, h⟩
                                  · by_cases hi198 : i191 = 126
                                    · subst hi198
                                      rw [if_pos rfl] at h
                                      have h9 := px_v1_some h
                                      clear h
                                      obtain ⟨y197, rfl, h⟩ := h9
                                      refine e_l_M_cut_28_77 K N a0 a1 v189 N (0 : Int32) (0 : Int32) s186 t187 _ hl195 _ _ ?_
                                      show px_E px_ET px_P 13 81 126 [some (.ref 28), some (.int a0), some (.int a1), none, some (.int v189), some (.int y197), none, none] [] (px_w K s193 t194) _ _
                                      refine px_blkif (c := v189 ≤ 0) (t := 138) (e := 128) (L' := [some (.ref 28), some (.int a0), some (.int a1), none, some (.int v189), some (.int y197), none, none]) (S' := []) (w' := px_w K s193 t194) (q := []) 2 hM rfl trivial (fun hc199 => ?_) (fun hc199 => ?_)
                                      · rw [if_pos hc199] at h
                                        refine px_blk (i' := 142) (L' := [some (.ref 28), some (.int a0), some (.int a1), none, some (.int v189), some (.int y197), none, none]) (S' := [.int a1, .int (1 : Int32), .int a0, .ref 28]) (w' := px_w K s193 t194) (q := []) 4 hM rfl trivial ?_
                                        rcases px_bv_some h with ⟨s200, t201, hk202, h⟩ | ⟨x204, s200, t201, hk202, h⟩
                                        · refine px_E_call hM rfl rfl rfl rfl (px_E_mono (by decide) (e_M_tellInode_28 K N a0 (1 : Int32) a1 s193 t194 _ hk202)) ?_
                                          refine px_blk (i' := 144) (L' := [some (.ref 28), some (.int a0), some (.int a1), none, some (.int v189), some (.int y197), none, none]) (S' := [.int (0 : Int32)]) (w' := px_w K s200 t201) (q := []) 1 hM rfl trivial ?_
                                          cases h
                                          exact px_E_ret hM rfl rfl rfl trivial
                                        · cases h
                                      · rw [if_neg hc199] at h
                                        refine px_blkif (c := ¬ y197 = 0) (t := 138) (e := 130) (L' := [some (.ref 28), some (.int a0), some (.int a1), none, some (.int v189), some (.int y197), none, none]) (S' := []) (w' := px_w K s193 t194) (q := []) 2 hM rfl trivial (fun hc205 => ?_) (fun hc205 => ?_)
                                        · rw [if_pos hc205] at h
                                          refine px_blk (i' := 142) (L' := [some (.ref 28), some (.int a0), some (.int a1), none, some (.int v189), some (.int y197), none, none]) (S' := [.int a1, .int (1 : Int32), .int a0, .ref 28]) (w' := px_w K s193 t194) (q := []) 4 hM rfl trivial ?_
                                          rcases px_bv_some h with ⟨s206, t207, hk208, h⟩ | ⟨x210, s206, t207, hk208, h⟩
                                          · refine px_E_call hM rfl rfl rfl rfl (px_E_mono (by decide) (e_M_tellInode_28 K N a0 (1 : Int32) a1 s193 t194 _ hk208)) ?_
                                            refine px_blk (i' := 144) (L' := [some (.ref 28), some (.int a0), some (.int a1), none, some (.int v189), some (.int y197), none, none]) (S' := [.int (0 : Int32)]) (w' := px_w K s206 t207) (q := []) 1 hM rfl trivial ?_
                                            cases h
                                            exact px_E_ret hM rfl rfl rfl trivial
                                          · cases h
                                        · rw [if_neg hc205] at h
                                          refine px_blk (i' := 132) (L' := [some (.ref 28), some (.int a0), some (.int a1), none, some (.int v189), some (.int y197), none, none]) (S' := [.int v189, .ref 28]) (w' := px_w K s193 t194) (q := []) 2 hM rfl trivial ?_
                                          rcases px_bv_some h with ⟨s211, t212, hk213, h⟩ | ⟨x215, s211, t212, hk213, h⟩
                                          · refine px_E_call hM rfl rfl rfl rfl (px_E_mono (by decide) (e_M_giveBack_28 K N v189 s193 t194 _ hk213)) ?_
                                            refine px_blk (i' := 137) (L' := [some (.ref 28), some (.int a0), some (.int a1), none, some (.int v189), some (.int y197), none, none]) (S' := [.int (0 : Int32), .int (6 : Int32), .int a0, .ref 28]) (w' := px_w K s211 t212) (q := []) 4 hM rfl trivial ?_
                                            rcases px_bv_some h with ⟨s216, t217, hk218, h⟩ | ⟨x220, s216, t217, hk218, h⟩
                                            · refine px_E_call hM rfl rfl rfl rfl (px_E_mono (by decide) (e_M_tellInode_28 K N a0 (6 : Int32) (0 : Int32) s211 t212 _ hk218)) ?_
                                              refine px_blk (i' := 142) (L' := [some (.ref 28), some (.int a0), some (.int a1), none, some (.int v189), some (.int y197), none, none]) (S' := [.int a1, .int (1 : Int32), .int a0, .ref 28]) (w' := px_w K s216 t217) (q := []) 4 hM rfl trivial ?_
                                              rcases px_bv_some h with ⟨s221, t222, hk223, h⟩ | ⟨x225, s221, t222, hk223, h⟩
                                              · refine px_E_call hM rfl rfl rfl rfl (px_E_mono (by decide) (e_M_tellInode_28 K N a0 (1 : Int32) a1 s216 t217 _ hk223)) ?_
                                                refine px_blk (i' := 144) (L' := [some (.ref 28), some (.int a0), some (.int a1), none, some (.int v189), some (.int y197), none, none]) (S' := [.int (0 : Int32)]) (w' := px_w K s221 t222) (q := []) 1 hM rfl trivial ?_
                                                cases h
                                                exact px_E_ret hM rfl rfl rfl trivial
                                              · cases h
                                            · cases h
                                          · cases h
                                    · rw [if_neg hi198] at h
                                      cases h
                                  · cases h
                                    exact e_l_M_cut_28_77 K N a0 a1 v189 N (0 : Int32) (0 : Int32) s186 t187 _ hl195 _ _ ⟨rfl, rfl⟩
                                · cases h
                              · rw [if_neg hi185] at h
                                cases h
                            · cases h
                              exact e_l_M_cut_28_58 K N a0 a1 (0 : Int32) N v177 s171 t172 _ hl183 _ _ ⟨rfl, rfl⟩
                          · rw [if_neg hc176] at h
                            refine px_blk (i' := 53) (L' := [some (.ref 28), some (.int a0), some (.int a1), some (.int (0 : Int32)), none, none, none, none]) (S' := [.int (-9 : Int32)]) (w' := px_w K s171 t172) (q := []) 1 hM rfl trivial ?_
                            cases h
                            exact px_E_ret hM rfl rfl rfl trivial
                        · cases h
                  · rw [if_neg hc27] at h
                    refine px_blk (i' := 30) (L' := [some (.ref 28), some (.int a0), some (.int a1), none, none, none, none, none]) (S' := [.int (0 : Int32)]) (w' := px_w K s22 t23) (q := []) 1 hM rfl trivial ?_
                    cases h
                    exact px_E_ret hM rfl rfl rfl trivial
                · cases h
              · rw [if_neg hc21] at h
                refine px_blk (i' := 22) (L' := [some (.ref 28), some (.int a0), some (.int a1), none, none, none, none, none]) (S' := [.int (-4 : Int32)]) (w' := px_w K s16 t17) (q := []) 1 hM rfl trivial ?_
                cases h
                exact px_E_ret hM rfl rfl rfl trivial
            · cases h
      · cases h
    · rw [if_neg hc8] at h
      refine px_blk (i' := 7) (L' := [some (.ref 28), some (.int a0), some (.int a1), none, none, none, none, none]) (S' := [.int (-9 : Int32)]) (w' := px_w K s3 t4) (q := []) 1 hM rfl trivial ?_
      cases h
      exact px_E_ret hM rfl rfl rfl trivial
  · cases h
noncomputable def l_M_remove_28_42 (K : px_K) (N : Nat) (n : Nat) (u1 : Int32) (u3 : Int32) (u4 : Int32) (m5 : Int32) (s : px_S) (t : px_W) : Option px_LO := match n with
  | 0 => none
  | n + 1 => (if (20 : Int32) ≤ m5 then (some (.inl (58, [], s, t))) else (px_bi (f_M_blockOf_28 K N u4 m5 s t) (fun v5 s2 t3 => (if v5 ≤ 0 then (l_M_remove_28_42 K N n u1 u3 u4 (m5 + (1 : Int32)) s2 t3) else (px_bi (f_M_blockOf_28 K N u4 m5 s2 t3) (fun v11 s8 t9 => (px_bv (f_M_giveBack_28 K N v11 s8 t9) (fun s13 t14 => (l_M_remove_28_42 K N n u1 u3 u4 (m5 + (1 : Int32)) s13 t14)) (fun x17 s13 t14 => none))) (fun x12 s8 t9 => none)))) (fun x6 s2 t3 => none)))
def a_l_M_remove_28_42 (K : px_K) (u1 : Int32) (u3 : Int32) (u4 : Int32) (z : px_LO) (o : Option Value ⊕ Nat) (w2 : px_W) : Prop := match z with
  | .inr (o', s', t') => o = o' ∧ w2 = px_w K s' t'
  | .inl (58, [], s', t') => px_E px_ET px_P 13 82 58 [some (.ref 28), some (.int u1), none, some (.int u3), some (.int u4), none] [] (px_w K s' t') o w2
  | _ => False
noncomputable def l_M_remove_28_71 (K : px_K) (N : Nat) (n : Nat) (u1 : Int32) (u3 : Int32) (u4 : Int32) (m5 : Int32) (s : px_S) (t : px_W) : Option px_LO := match n with
  | 0 => none
  | n + 1 => (if (8 : Int32) ≤ m5 then (some (.inl (81, [], s, t))) else (px_bv (f_M_tellInode_28 K N u4 m5 (0 : Int32) s t) (fun s2 t3 => (l_M_remove_28_71 K N n u1 u3 u4 (m5 + (1 : Int32)) s2 t3)) (fun x6 s2 t3 => none)))
def a_l_M_remove_28_71 (K : px_K) (u1 : Int32) (u3 : Int32) (u4 : Int32) (z : px_LO) (o : Option Value ⊕ Nat) (w2 : px_W) : Prop := match z with
  | .inr (o', s', t') => o = o' ∧ w2 = px_w K s' t'
  | .inl (81, [], s', t') => px_E px_ET px_P 13 82 81 [some (.ref 28), some (.int u1), none, some (.int u3), none, none] [] (px_w K s' t') o w2
  | _ => False
set_option maxRecDepth 100000 in
theorem e_l_M_remove_28_42 (K : px_K) (N : Nat) (u1 : Int32) (u3 : Int32) (u4 : Int32) : ∀ (n : Nat) (m5 : Int32) (s : px_S) (t : px_W) (z : px_LO), l_M_remove_28_42 K N n u1 u3 u4 m5 s t = some z → ∀ (o : Option Value ⊕ Nat) (w2 : px_W), a_l_M_remove_28_42 K u1 u3 u4 z o w2 → px_E px_ET px_P 13 82 42 [some (.ref 28), some (.int u1), none, some (.int u3), some (.int u4), some (.int m5)] [] (px_w K s t) o w2 := by
  have hM : px_P[82]? = some pm_M_remove := rfl
  intro n
  induction n with
  | zero => intro m5 s t z h; cases h
  | succ n ih =>
    intro m5 s t z h o w2 ha
    unfold l_M_remove_28_42 at h
    refine px_blkif (c := (20 : Int32) ≤ m5) (t := 58) (e := 45) (L' := [some (.ref 28), some (.int u1), none, some (.int u3), some (.int u4), some (.int m5)]) (S' := []) (w' := px_w K s t) (q := []) 3 hM rfl trivial (fun hc1 => ?_) (fun hc1 => ?_)
    · rw [if_pos hc1] at h
      cases h
      exact px_E_le (px_leC_L _ _ (by simp [px_leC, px_le1, Value.category])) ha
    · rw [if_neg hc1] at h
      refine px_blk (i' := 48) (L' := [some (.ref 28), some (.int u1), none, some (.int u3), some (.int u4), some (.int m5)]) (S' := [.int m5, .int u4, .ref 28]) (w' := px_w K s t) (q := []) 3 hM rfl trivial ?_
      rcases px_bi_some h with ⟨v5, s2, t3, hk4, h⟩ | ⟨x6, s2, t3, hk4, h⟩
      · refine px_E_call hM rfl rfl rfl rfl (px_E_mono (by decide) (e_M_blockOf_28 K N u4 m5 s t _ hk4)) ?_
        refine px_blkif (c := v5 ≤ 0) (t := 56) (e := 50) (L' := [some (.ref 28), some (.int u1), none, some (.int u3), some (.int u4), some (.int m5)]) (S' := []) (w' := px_w K s2 t3) (q := []) 1 hM rfl trivial (fun hc7 => ?_) (fun hc7 => ?_)
        · rw [if_pos hc7] at h
          refine px_blk (i' := 42) (L' := [some (.ref 28), some (.int u1), none, some (.int u3), some (.int u4), some (.int (m5 + (1 : Int32)))]) (S' := []) (w' := px_w K s2 t3) (q := []) 2 hM rfl trivial ?_
          exact ih (m5 + (1 : Int32)) s2 t3 z h o w2 ha
        · rw [if_neg hc7] at h
          refine px_blk (i' := 54) (L' := [some (.ref 28), some (.int u1), none, some (.int u3), some (.int u4), some (.int m5)]) (S' := [.int m5, .int u4, .ref 28, .ref 28]) (w' := px_w K s2 t3) (q := []) 4 hM rfl trivial ?_
          rcases px_bi_some h with ⟨v11, s8, t9, hk10, h⟩ | ⟨x12, s8, t9, hk10, h⟩
          · refine px_E_call hM rfl rfl rfl rfl (px_E_mono (by decide) (e_M_blockOf_28 K N u4 m5 s2 t3 _ hk10)) ?_
            rcases px_bv_some h with ⟨s13, t14, hk15, h⟩ | ⟨x17, s13, t14, hk15, h⟩
            · refine px_E_call hM rfl rfl rfl rfl (px_E_mono (by decide) (e_M_giveBack_28 K N v11 s8 t9 _ hk15)) ?_
              refine px_blk (i' := 42) (L' := [some (.ref 28), some (.int u1), none, some (.int u3), some (.int u4), some (.int (m5 + (1 : Int32)))]) (S' := []) (w' := px_w K s13 t14) (q := []) 2 hM rfl trivial ?_
              exact ih (m5 + (1 : Int32)) s13 t14 z h o w2 ha
            · cases h
          · cases h
      · cases h
set_option maxRecDepth 100000 in
theorem e_l_M_remove_28_71 (K : px_K) (N : Nat) (u1 : Int32) (u3 : Int32) (u4 : Int32) : ∀ (n : Nat) (m5 : Int32) (s : px_S) (t : px_W) (z : px_LO), l_M_remove_28_71 K N n u1 u3 u4 m5 s t = some z → ∀ (o : Option Value ⊕ Nat) (w2 : px_W), a_l_M_remove_28_71 K u1 u3 u4 z o w2 → px_E px_ET px_P 13 82 71 [some (.ref 28), some (.int u1), none, some (.int u3), some (.int u4), some (.int m5)] [] (px_w K s t) o w2 := by
  have hM : px_P[82]? = some pm_M_remove := rfl
  intro n
  induction n with
  | zero => intro m5 s t z h; cases h
  | succ n ih =>
    intro m5 s t z h o w2 ha
    unfold l_M_remove_28_71 at h
    refine px_blkif (c := (8 : Int32) ≤ m5) (t := 81) (e := 74) (L' := [some (.ref 28), some (.int u1), none, some (.int u3), some (.int u4), some (.int m5)]) (S' := []) (w' := px_w K s t) (q := []) 3 hM rfl trivial (fun hc1 => ?_) (fun hc1 => ?_)
    · rw [if_pos hc1] at h
      cases h
      exact px_E_le (px_leC_L _ _ (by simp [px_leC, px_le1, Value.category])) ha
    · rw [if_neg hc1] at h
      refine px_blk (i' := 78) (L' := [some (.ref 28), some (.int u1), none, some (.int u3), some (.int u4), some (.int m5)]) (S' := [.int (0 : Int32), .int m5, .int u4, .ref 28]) (w' := px_w K s t) (q := []) 4 hM rfl trivial ?_
      rcases px_bv_some h with ⟨s2, t3, hk4, h⟩ | ⟨x6, s2, t3, hk4, h⟩
      · refine px_E_call hM rfl rfl rfl rfl (px_E_mono (by decide) (e_M_tellInode_28 K N u4 m5 (0 : Int32) s t _ hk4)) ?_
        refine px_blk (i' := 71) (L' := [some (.ref 28), some (.int u1), none, some (.int u3), some (.int u4), some (.int (m5 + (1 : Int32)))]) (S' := []) (w' := px_w K s2 t3) (q := []) 2 hM rfl trivial ?_
        exact ih (m5 + (1 : Int32)) s2 t3 z h o w2 ha
      · cases h
noncomputable def f_M_remove_28 (K : px_K) (N : Nat) (a0 : Int32) (a1 : Int32) (s : px_S) (t : px_W) : Option px_Res :=
  (px_let (sR s 25 (0 : Int32)) (fun s1 => (px_bi (f_M_begins_28 K N s1 t) (fun v6 s3 t4 => (if ¬ v6 = 0 then (px_bi (f_M_isKind_28 K N a0 (1 : Int32) s3 t4) (fun v12 s9 t10 => (if ¬ v12 = 0 then (px_bi (f_M_placeOf_28 K N a0 a1 s9 t10) (fun v18 s15 t16 => (if 0 ≤ v18 then (px_bi (f_M_inodeAt_28 K N a0 v18 s15 t16) (fun v24 s21 t22 => (px_bi (f_M_isKind_28 K N v24 (1 : Int32) s21 t22) (fun v29 s26 t27 => (if v29 = 0 then (px_lp (l_M_remove_28_42 K N N a0 v18 v24 (0 : Int32) s26 t27) (fun i32 vs33 s34 t35 => (if i32 = 58 then (px_v0 vs33 (px_bi (f_M_ofInode_28 K N v24 (6 : Int32) s34 t35) (fun v42 s39 t40 => (if v42 ≤ 0 then (px_lp (l_M_remove_28_71 K N N a0 v18 v24 (0 : Int32) s39 t40) (fun i45 vs46 s47 t48 => (if i45 = 81 then (px_v0 vs46 (px_bv (f_M_leave_28 K N a0 v18 s47 t48) (fun s52 t53 => (some (.inl (some (.int (0 : Int32))), s52, t53))) (fun x56 s52 t53 => none))) else none)) (fun z50 => some z50)) else (px_bi (f_M_ofInode_28 K N v24 (6 : Int32) s39 t40) (fun v60 s57 t58 => (px_bv (f_M_giveBack_28 K N v60 s57 t58) (fun s62 t63 => (px_lp (l_M_remove_28_71 K N N a0 v18 v24 (0 : Int32) s62 t63) (fun i67 vs68 s69 t70 => (if i67 = 81 then (px_v0 vs68 (px_bv (f_M_leave_28 K N a0 v18 s69 t70) (fun s74 t75 => (some (.inl (some (.int (0 : Int32))), s74, t75))) (fun x78 s74 t75 => none))) else none)) (fun z72 => some z72))) (fun x66 s62 t63 => none))) (fun x61 s57 t58 => none)))) (fun x43 s39 t40 => none))) else none)) (fun z37 => some z37)) else (px_bi (f_M_names_28 K N v24 s26 t27) (fun v82 s79 t80 => (if v82 ≤ 0 then (px_lp (l_M_remove_28_42 K N N a0 v18 v24 (0 : Int32) s79 t80) (fun i85 vs86 s87 t88 => (if i85 = 58 then (px_v0 vs86 (px_bi (f_M_ofInode_28 K N v24 (6 : Int32) s87 t88) (fun v95 s92 t93 => (if v95 ≤ 0 then (px_lp (l_M_remove_28_71 K N N a0 v18 v24 (0 : Int32) s92 t93) (fun i98 vs99 s100 t101 => (if i98 = 81 then (px_v0 vs99 (px_bv (f_M_leave_28 K N a0 v18 s100 t101) (fun s105 t106 => (some (.inl (some (.int (0 : Int32))), s105, t106))) (fun x109 s105 t106 => none))) else none)) (fun z103 => some z103)) else (px_bi (f_M_ofInode_28 K N v24 (6 : Int32) s92 t93) (fun v113 s110 t111 => (px_bv (f_M_giveBack_28 K N v113 s110 t111) (fun s115 t116 => (px_lp (l_M_remove_28_71 K N N a0 v18 v24 (0 : Int32) s115 t116) (fun i120 vs121 s122 t123 => (if i120 = 81 then (px_v0 vs121 (px_bv (f_M_leave_28 K N a0 v18 s122 t123) (fun s127 t128 => (some (.inl (some (.int (0 : Int32))), s127, t128))) (fun x131 s127 t128 => none))) else none)) (fun z125 => some z125))) (fun x119 s115 t116 => none))) (fun x114 s110 t111 => none)))) (fun x96 s92 t93 => none))) else none)) (fun z90 => some z90)) else (some (.inl (some (.int (-3 : Int32))), s79, t80)))) (fun x83 s79 t80 => none)))) (fun x30 s26 t27 => none))) (fun x25 s21 t22 => none)) else (some (.inl (some (.int (-1 : Int32))), s15, t16)))) (fun x19 s15 t16 => none)) else (some (.inl (some (.int (-4 : Int32))), s9, t10)))) (fun x13 s9 t10 => none)) else (some (.inl (some (.int (-9 : Int32))), s3, t4)))) (fun x7 s3 t4 => none))))
set_option maxRecDepth 100000 in
theorem e_M_remove_28 (K : px_K) (N : Nat) (a0 : Int32) (a1 : Int32) (s : px_S) (t : px_W) (r : px_Res) (h : f_M_remove_28 K N a0 a1 s t = some r) : px_E px_ET px_P 13 82 0 (px_ent 6 [.ref 28, .int a0, .int a1]) [] (px_w K s t) r.1 (px_w K r.2.1 r.2.2) := by
  have hM : px_P[82]? = some pm_M_remove := rfl
  unfold f_M_remove_28 at h
  refine px_blk (i' := 3) (L' := [some (.ref 28), some (.int a0), some (.int a1), none, none, none]) (S' := []) (w' := px_w K (sR s 25 (0 : Int32)) t) (q := []) 3 hM rfl trivial ?_
  obtain ⟨s1, hs2, h⟩ := px_let_some h
  rw [← hs2]
  refine px_blk (i' := 4) (L' := [some (.ref 28), some (.int a0), some (.int a1), none, none, none]) (S' := [.ref 28]) (w' := px_w K s1 t) (q := []) 1 hM rfl trivial ?_
  rcases px_bi_some h with ⟨v6, s3, t4, hk5, h⟩ | ⟨x7, s3, t4, hk5, h⟩
  · refine px_E_call hM rfl rfl rfl rfl (px_E_mono (by decide) (e_M_begins_28 K N s1 t _ hk5)) ?_
    refine px_blkif (c := ¬ v6 = 0) (t := 8) (e := 6) (L' := [some (.ref 28), some (.int a0), some (.int a1), none, none, none]) (S' := []) (w' := px_w K s3 t4) (q := []) 1 hM rfl trivial (fun hc8 => ?_) (fun hc8 => ?_)
    · rw [if_pos hc8] at h
      refine px_blk (i' := 11) (L' := [some (.ref 28), some (.int a0), some (.int a1), none, none, none]) (S' := [.int (1 : Int32), .int a0, .ref 28]) (w' := px_w K s3 t4) (q := []) 3 hM rfl trivial ?_
      rcases px_bi_some h with ⟨v12, s9, t10, hk11, h⟩ | ⟨x13, s9, t10, hk11, h⟩
      · refine px_E_call hM rfl rfl rfl rfl (px_E_mono (by decide) (e_M_isKind_28 K N a0 (1 : Int32) s3 t4 _ hk11)) ?_
        refine px_blkif (c := ¬ v12 = 0) (t := 15) (e := 13) (L' := [some (.ref 28), some (.int a0), some (.int a1), none, none, none]) (S' := []) (w' := px_w K s9 t10) (q := []) 1 hM rfl trivial (fun hc14 => ?_) (fun hc14 => ?_)
        · rw [if_pos hc14] at h
          refine px_blk (i' := 18) (L' := [some (.ref 28), some (.int a0), some (.int a1), none, none, none]) (S' := [.int a1, .int a0, .ref 28]) (w' := px_w K s9 t10) (q := []) 3 hM rfl trivial ?_
          rcases px_bi_some h with ⟨v18, s15, t16, hk17, h⟩ | ⟨x19, s15, t16, hk17, h⟩
          · refine px_E_call hM rfl rfl rfl rfl (px_E_mono (by decide) (e_M_placeOf_28 K N a0 a1 s9 t10 _ hk17)) ?_
            refine px_blkif (c := 0 ≤ v18) (t := 24) (e := 22) (L' := [some (.ref 28), some (.int a0), some (.int a1), some (.int v18), none, none]) (S' := []) (w' := px_w K s15 t16) (q := []) 3 hM rfl trivial (fun hc20 => ?_) (fun hc20 => ?_)
            · rw [if_pos hc20] at h
              refine px_blk (i' := 27) (L' := [some (.ref 28), some (.int a0), some (.int a1), some (.int v18), none, none]) (S' := [.int v18, .int a0, .ref 28]) (w' := px_w K s15 t16) (q := []) 3 hM rfl trivial ?_
              rcases px_bi_some h with ⟨v24, s21, t22, hk23, h⟩ | ⟨x25, s21, t22, hk23, h⟩
              · refine px_E_call hM rfl rfl rfl rfl (px_E_mono (by decide) (e_M_inodeAt_28 K N a0 v18 s15 t16 _ hk23)) ?_
                refine px_blk (i' := 32) (L' := [some (.ref 28), some (.int a0), some (.int a1), some (.int v18), some (.int v24), none]) (S' := [.int (1 : Int32), .int v24, .ref 28]) (w' := px_w K s21 t22) (q := []) 4 hM rfl trivial ?_
                rcases px_bi_some h with ⟨v29, s26, t27, hk28, h⟩ | ⟨x30, s26, t27, hk28, h⟩
                · refine px_E_call hM rfl rfl rfl rfl (px_E_mono (by decide) (e_M_isKind_28 K N v24 (1 : Int32) s21 t22 _ hk28)) ?_
                  refine px_blkif (c := v29 = 0) (t := 40) (e := 34) (L' := [some (.ref 28), some (.int a0), some (.int a1), some (.int v18), some (.int v24), none]) (S' := []) (w' := px_w K s26 t27) (q := []) 1 hM rfl trivial (fun hc31 => ?_) (fun hc31 => ?_)
                  · rw [if_pos hc31] at h
                    refine px_blk (i' := 42) (L' := [some (.ref 28), some (.int a0), some (.int a1), some (.int v18), some (.int v24), some (.int (0 : Int32))]) (S' := []) (w' := px_w K s26 t27) (q := []) 2 hM rfl trivial ?_
                    rcases px_lp_some h with ⟨i32, vs33, s34, t35, hl36, h⟩ | ⟨z37, hl36, h⟩
                    · by_cases hi38 : i32 = 58
                      · subst hi38
                        rw [if_pos rfl] at h
                        have h9 := px_v0_some h
                        clear h
                        obtain ⟨rfl, h⟩ := h9
                        refine px_E_le (px_leC_L _ _ (by simp [px_leC, px_le1, Value.category])) (e_l_M_remove_28_42 K N a0 v18 v24 N (0 : Int32) s26 t27 _ hl36 _ _ ?_)
                        show px_E px_ET px_P 13 82 58 [some (.ref 28), some (.int a0), none, some (.int v18), some (.int v24), none] [] (px_w K s34 t35) _ _
                        refine px_blk (i' := 61) (L' := [some (.ref 28), some (.int a0), none, some (.int v18), some (.int v24), none]) (S' := [.int (6 : Int32), .int v24, .ref 28]) (w' := px_w K s34 t35) (q := []) 3 hM rfl trivial ?_
                        rcases px_bi_some h with ⟨v42, s39, t40, hk41, h⟩ | ⟨x43, s39, t40, hk41, h⟩
                        · refine px_E_call hM rfl rfl rfl rfl (px_E_mono (by decide) (e_M_ofInode_28 K N v24 (6 : Int32) s34 t35 _ hk41)) ?_
                          refine px_blkif (c := v42 ≤ 0) (t := 69) (e := 63) (L' := [some (.ref 28), some (.int a0), none, some (.int v18), some (.int v24), none]) (S' := []) (w' := px_w K s39 t40) (q := []) 1 hM rfl trivial (fun hc44 => ?_) (fun hc44 => ?_)
                          · rw [if_pos hc44] at h
                            refine px_blk (i' := 71) (L' := [some (.ref 28), some (.int a0), none, some (.int v18), some (.int v24), some (.int (0 : Int32))]) (S' := []) (w' := px_w K s39 t40) (q := []) 2 hM rfl trivial ?_
                            rcases px_lp_some h with ⟨i45, vs46, s47, t48, hl49, h⟩ | ⟨z50, hl49, h⟩
                            · by_cases hi51 : i45 = 81
                              · subst hi51
                                rw [if_pos rfl] at h
                                have h9 := px_v0_some h
                                clear h
                                obtain ⟨rfl, h⟩ := h9
                                refine e_l_M_remove_28_71 K N a0 v18 v24 N (0 : Int32) s39 t40 _ hl49 _ _ ?_
                                show px_E px_ET px_P 13 82 81 [some (.ref 28), some (.int a0), none, some (.int v18), none, none] [] (px_w K s47 t48) _ _
                                refine px_blk (i' := 84) (L' := [some (.ref 28), some (.int a0), none, some (.int v18), none, none]) (S' := [.int v18, .int a0, .ref 28]) (w' := px_w K s47 t48) (q := []) 3 hM rfl trivial ?_
                                rcases px_bv_some h with ⟨s52, t53, hk54, h⟩ | ⟨x56, s52, t53, hk54, h⟩
                                · refine px_E_call hM rfl rfl rfl rfl (px_E_mono (by decide) (e_M_leave_28 K N a0 v18 s47 t48 _ hk54)) ?_
                                  refine px_blk (i' := 86) (L' := [some (.ref 28), some (.int a0), none, some (.int v18), none, none]) (S' := [.int (0 : Int32)]) (w' := px_w K s52 t53) (q := []) 1 hM rfl trivial ?_
                                  cases h
                                  exact px_E_ret hM rfl rfl rfl trivial
                                · cases h
                              · rw [if_neg hi51] at h
                                cases h
                            · cases h
                              exact e_l_M_remove_28_71 K N a0 v18 v24 N (0 : Int32) s39 t40 _ hl49 _ _ ⟨rfl, rfl⟩
                          · rw [if_neg hc44] at h
                            refine px_blk (i' := 67) (L' := [some (.ref 28), some (.int a0), none, some (.int v18), some (.int v24), none]) (S' := [.int (6 : Int32), .int v24, .ref 28, .ref 28]) (w' := px_w K s39 t40) (q := []) 4 hM rfl trivial ?_
                            rcases px_bi_some h with ⟨v60, s57, t58, hk59, h⟩ | ⟨x61, s57, t58, hk59, h⟩
                            · refine px_E_call hM rfl rfl rfl rfl (px_E_mono (by decide) (e_M_ofInode_28 K N v24 (6 : Int32) s39 t40 _ hk59)) ?_
                              rcases px_bv_some h with ⟨s62, t63, hk64, h⟩ | ⟨x66, s62, t63, hk64, h⟩
                              · refine px_E_call hM rfl rfl rfl rfl (px_E_mono (by decide) (e_M_giveBack_28 K N v60 s57 t58 _ hk64)) ?_
                                refine px_blk (i' := 71) (L' := [some (.ref 28), some (.int a0), none, some (.int v18), some (.int v24), some (.int (0 : Int32))]) (S' := []) (w' := px_w K s62 t63) (q := []) 2 hM rfl trivial ?_
                                rcases px_lp_some h with ⟨i67, vs68, s69, t70, hl71, h⟩ | ⟨z72, hl71, h⟩
                                · by_cases hi73 : i67 = 81
                                  · subst hi73
                                    rw [if_pos rfl] at h
                                    have h9 := px_v0_some h
                                    clear h
                                    obtain ⟨rfl, h⟩ := h9
                                    refine e_l_M_remove_28_71 K N a0 v18 v24 N (0 : Int32) s62 t63 _ hl71 _ _ ?_
                                    show px_E px_ET px_P 13 82 81 [some (.ref 28), some (.int a0), none, some (.int v18), none, none] [] (px_w K s69 t70) _ _
                                    refine px_blk (i' := 84) (L' := [some (.ref 28), some (.int a0), none, some (.int v18), none, none]) (S' := [.int v18, .int a0, .ref 28]) (w' := px_w K s69 t70) (q := []) 3 hM rfl trivial ?_
                                    rcases px_bv_some h with ⟨s74, t75, hk76, h⟩ | ⟨x78, s74, t75, hk76, h⟩
                                    · refine px_E_call hM rfl rfl rfl rfl (px_E_mono (by decide) (e_M_leave_28 K N a0 v18 s69 t70 _ hk76)) ?_
                                      refine px_blk (i' := 86) (L' := [some (.ref 28), some (.int a0), none, some (.int v18), none, none]) (S' := [.int (0 : Int32)]) (w' := px_w K s74 t75) (q := []) 1 hM rfl trivial ?_
                                      cases h
                                      exact px_E_ret hM rfl rfl rfl trivial
                                    · cases h
                                  · rw [if_neg hi73] at h
                                    cases h
                                · cases h
                                  exact e_l_M_remove_28_71 K N a0 v18 v24 N (0 : Int32) s62 t63 _ hl71 _ _ ⟨rfl, rfl⟩
                              · cases h
                            · cases h
                        · cases h
                      · rw [if_neg hi38] at h
                        cases h
                    · cases h
                      exact px_E_le (px_leC_L _ _ (by simp [px_leC, px_le1, Value.category])) (e_l_M_remove_28_42 K N a0 v18 v24 N (0 : Int32) s26 t27 _ hl36 _ _ ⟨rfl, rfl⟩)
                  · rw [if_neg hc31] at h
                    refine px_blk (i' := 36) (L' := [some (.ref 28), some (.int a0), some (.int a1), some (.int v18), some (.int v24), none]) (S' := [.int v24, .ref 28]) (w' := px_w K s26 t27) (q := []) 2 hM rfl trivial ?_
                    rcases px_bi_some h with ⟨v82, s79, t80, hk81, h⟩ | ⟨x83, s79, t80, hk81, h⟩
                    · refine px_E_call hM rfl rfl rfl rfl (px_E_mono (by decide) (e_M_names_28 K N v24 s26 t27 _ hk81)) ?_
                      refine px_blkif (c := v82 ≤ 0) (t := 40) (e := 38) (L' := [some (.ref 28), some (.int a0), some (.int a1), some (.int v18), some (.int v24), none]) (S' := []) (w' := px_w K s79 t80) (q := []) 1 hM rfl trivial (fun hc84 => ?_) (fun hc84 => ?_)
                      · rw [if_pos hc84] at h
                        refine px_blk (i' := 42) (L' := [some (.ref 28), some (.int a0), some (.int a1), some (.int v18), some (.int v24), some (.int (0 : Int32))]) (S' := []) (w' := px_w K s79 t80) (q := []) 2 hM rfl trivial ?_
                        rcases px_lp_some h with ⟨i85, vs86, s87, t88, hl89, h⟩ | ⟨z90, hl89, h⟩
                        · by_cases hi91 : i85 = 58
                          · subst hi91
                            rw [if_pos rfl] at h
                            have h9 := px_v0_some h
                            clear h
                            obtain ⟨rfl, h⟩ := h9
                            refine px_E_le (px_leC_L _ _ (by simp [px_leC, px_le1, Value.category])) (e_l_M_remove_28_42 K N a0 v18 v24 N (0 : Int32) s79 t80 _ hl89 _ _ ?_)
                            show px_E px_ET px_P 13 82 58 [some (.ref 28), some (.int a0), none, some (.int v18), some (.int v24), none] [] (px_w K s87 t88) _ _
                            refine px_blk (i' := 61) (L' := [some (.ref 28), some (.int a0), none, some (.int v18), some (.int v24), none]) (S' := [.int (6 : Int32), .int v24, .ref 28]) (w' := px_w K s87 t88) (q := []) 3 hM rfl trivial ?_
                            rcases px_bi_some h with ⟨v95, s92, t93, hk94, h⟩ | ⟨x96, s92, t93, hk94, h⟩
                            · refine px_E_call hM rfl rfl rfl rfl (px_E_mono (by decide) (e_M_ofInode_28 K N v24 (6 : Int32) s87 t88 _ hk94)) ?_
                              refine px_blkif (c := v95 ≤ 0) (t := 69) (e := 63) (L' := [some (.ref 28), some (.int a0), none, some (.int v18), some (.int v24), none]) (S' := []) (w' := px_w K s92 t93) (q := []) 1 hM rfl trivial (fun hc97 => ?_) (fun hc97 => ?_)
                              · rw [if_pos hc97] at h
                                refine px_blk (i' := 71) (L' := [some (.ref 28), some (.int a0), none, some (.int v18), some (.int v24), some (.int (0 : Int32))]) (S' := []) (w' := px_w K s92 t93) (q := []) 2 hM rfl trivial ?_
                                rcases px_lp_some h with ⟨i98, vs99, s100, t101, hl102, h⟩ | ⟨z103, hl102, h⟩
                                · by_cases hi104 : i98 = 81
                                  · subst hi104
                                    rw [if_pos rfl] at h
                                    have h9 := px_v0_some h
                                    clear h
                                    obtain ⟨rfl, h⟩ := h9
                                    refine e_l_M_remove_28_71 K N a0 v18 v24 N (0 : Int32) s92 t93 _ hl102 _ _ ?_
                                    show px_E px_ET px_P 13 82 81 [some (.ref 28), some (.int a0), none, some (.int v18), none, none] [] (px_w K s100 t101) _ _
                                    refine px_blk (i' := 84) (L' := [some (.ref 28), some (.int a0), none, some (.int v18), none, none]) (S' := [.int v18, .int a0, .ref 28]) (w' := px_w K s100 t101) (q := []) 3 hM rfl trivial ?_
                                    rcases px_bv_some h with ⟨s105, t106, hk107, h⟩ | ⟨x109, s105, t106, hk107, h⟩
                                    · refine px_E_call hM rfl rfl rfl rfl (px_E_mono (by decide) (e_M_leave_28 K N a0 v18 s100 t101 _ hk107)) ?_
                                      refine px_blk (i' := 86) (L' := [some (.ref 28), some (.int a0), none, some (.int v18), none, none]) (S' := [.int (0 : Int32)]) (w' := px_w K s105 t106) (q := []) 1 hM rfl trivial ?_
                                      cases h
                                      exact px_E_ret hM rfl rfl rfl trivial
                                    · cases h
                                  · rw [if_neg hi104] at h
                                    cases h
                                · cases h
                                  exact e_l_M_remove_28_71 K N a0 v18 v24 N (0 : Int32) s92 t93 _ hl102 _ _ ⟨rfl, rfl⟩
                              · rw [if_neg hc97] at h
                                refine px_blk (i' := 67) (L' := [some (.ref 28), some (.int a0), none, some (.int v18), some (.int v24), none]) (S' := [.int (6 : Int32), .int v24, .ref 28, .ref 28]) (w' := px_w K s92 t93) (q := []) 4 hM rfl trivial ?_
                                rcases px_bi_some h with ⟨v113, s110, t111, hk112, h⟩ | ⟨x114, s110, t111, hk112, h⟩
                                · refine px_E_call hM rfl rfl rfl rfl (px_E_mono (by decide) (e_M_ofInode_28 K N v24 (6 : Int32) s92 t93 _ hk112)) ?_
                                  rcases px_bv_some h with ⟨s115, t116, hk117, h⟩ | ⟨x119, s115, t116, hk117, h⟩
                                  · refine px_E_call hM rfl rfl rfl rfl (px_E_mono (by decide) (e_M_giveBack_28 K N v113 s110 t111 _ hk117)) ?_
                                    refine px_blk (i' := 71) (L' := [some (.ref 28), some (.int a0), none, some (.int v18), some (.int v24), some (.int (0 : Int32))]) (S' := []) (w' := px_w K s115 t116) (q := []) 2 hM rfl trivial ?_
                                    rcases px_lp_some h with ⟨i120, vs121, s122, t123, hl124, h⟩ | ⟨z125, hl124, h⟩
                                    · by_cases hi126 : i120 = 81
                                      · subst hi126
                                        rw [if_pos rfl] at h
                                        have h9 := px_v0_some h
                                        clear h
                                        obtain ⟨rfl, h⟩ := h9
                                        refine e_l_M_remove_28_71 K N a0 v18 v24 N (0 : Int32) s115 t116 _ hl124 _ _ ?_
                                        show px_E px_ET px_P 13 82 81 [some (.ref 28), some (.int a0), none, some (.int v18), none, none] [] (px_w K s122 t123) _ _
                                        refine px_blk (i' := 84) (L' := [some (.ref 28), some (.int a0), none, some (.int v18), none, none]) (S' := [.int v18, .int a0, .ref 28]) (w' := px_w K s122 t123) (q := []) 3 hM rfl trivial ?_
                                        rcases px_bv_some h with ⟨s127, t128, hk129, h⟩ | ⟨x131, s127, t128, hk129, h⟩
                                        · refine px_E_call hM rfl rfl rfl rfl (px_E_mono (by decide) (e_M_leave_28 K N a0 v18 s122 t123 _ hk129)) ?_
                                          refine px_blk (i' := 86) (L' := [some (.ref 28), some (.int a0), none, some (.int v18), none, none]) (S' := [.int (0 : Int32)]) (w' := px_w K s127 t128) (q := []) 1 hM rfl trivial ?_
                                          cases h
                                          exact px_E_ret hM rfl rfl rfl trivial
                                        · cases h
                                      · rw [if_neg hi126] at h
                                        cases h
                                    · cases h
                                      exact e_l_M_remove_28_71 K N a0 v18 v24 N (0 : Int32) s115 t116 _ hl124 _ _ ⟨rfl, rfl⟩
                                  · cases h
                                · cases h
                            · cases h
                          · rw [if_neg hi91] at h
                            cases h
                        · cases h
                          exact px_E_le (px_leC_L _ _ (by simp [px_leC, px_le1, Value.category])) (e_l_M_remove_28_42 K N a0 v18 v24 N (0 : Int32) s79 t80 _ hl89 _ _ ⟨rfl, rfl⟩)
                      · rw [if_neg hc84] at h
                        refine px_blk (i' := 39) (L' := [some (.ref 28), some (.int a0), some (.int a1), some (.int v18), some (.int v24), none]) (S' := [.int (-3 : Int32)]) (w' := px_w K s79 t80) (q := []) 1 hM rfl trivial ?_
                        cases h
                        exact px_E_ret hM rfl rfl rfl trivial
                    · cases h
                · cases h
              · cases h
            · rw [if_neg hc20] at h
              refine px_blk (i' := 23) (L' := [some (.ref 28), some (.int a0), some (.int a1), some (.int v18), none, none]) (S' := [.int (-1 : Int32)]) (w' := px_w K s15 t16) (q := []) 1 hM rfl trivial ?_
              cases h
              exact px_E_ret hM rfl rfl rfl trivial
          · cases h
        · rw [if_neg hc14] at h
          refine px_blk (i' := 14) (L' := [some (.ref 28), some (.int a0), some (.int a1), none, none, none]) (S' := [.int (-4 : Int32)]) (w' := px_w K s9 t10) (q := []) 1 hM rfl trivial ?_
          cases h
          exact px_E_ret hM rfl rfl rfl trivial
      · cases h
    · rw [if_neg hc8] at h
      refine px_blk (i' := 7) (L' := [some (.ref 28), some (.int a0), some (.int a1), none, none, none]) (S' := [.int (-9 : Int32)]) (w' := px_w K s3 t4) (q := []) 1 hM rfl trivial ?_
      cases h
      exact px_E_ret hM rfl rfl rfl trivial
  · cases h
noncomputable def l_M_inode_28_51 (K : px_K) (N : Nat) (n : Nat) (u1 : Int32) (m3 : Int32) (m4 : Int32) (s : px_S) (t : px_W) : Option px_LO := match n with
  | 0 => none
  | n + 1 => (if (20 : Int32) ≤ m4 then (some (.inl (67, [m3], s, t))) else (px_bi (f_M_blockOf_28 K N u1 m4 s t) (fun v5 s2 t3 => (px_let (m3 + (if v5 ≤ 0 then (0 : Int32) else (1 : Int32))) (fun v7 => (l_M_inode_28_51 K N n u1 v7 (m4 + (1 : Int32)) s2 t3)))) (fun x6 s2 t3 => none)))
def a_l_M_inode_28_51 (K : px_K) (u1 : Int32) (z : px_LO) (o : Option Value ⊕ Nat) (w2 : px_W) : Prop := match z with
  | .inr (o', s', t') => o = o' ∧ w2 = px_w K s' t'
  | .inl (67, [y3], s', t') => px_E px_ET px_P 6 85 67 [none, none, none, some (.int y3), none] [] (px_w K s' t') o w2
  | _ => False
set_option maxRecDepth 100000 in
theorem e_l_M_inode_28_51 (K : px_K) (N : Nat) (u1 : Int32) : ∀ (n : Nat) (m3 : Int32) (m4 : Int32) (s : px_S) (t : px_W) (z : px_LO), l_M_inode_28_51 K N n u1 m3 m4 s t = some z → ∀ (o : Option Value ⊕ Nat) (w2 : px_W), a_l_M_inode_28_51 K u1 z o w2 → px_E px_ET px_P 6 85 51 [some (.ref 28), some (.int u1), none, some (.int m3), some (.int m4)] [] (px_w K s t) o w2 := by
  have hM : px_P[85]? = some pm_M_inode := rfl
  intro n
  induction n with
  | zero => intro m3 m4 s t z h; cases h
  | succ n ih =>
    intro m3 m4 s t z h o w2 ha
    unfold l_M_inode_28_51 at h
    refine px_blkif (c := (20 : Int32) ≤ m4) (t := 67) (e := 54) (L' := [some (.ref 28), some (.int u1), none, some (.int m3), some (.int m4)]) (S' := []) (w' := px_w K s t) (q := []) 3 hM rfl trivial (fun hc1 => ?_) (fun hc1 => ?_)
    · rw [if_pos hc1] at h
      cases h
      exact px_E_le (px_leC_L _ _ (by simp [px_leC, px_le1, Value.category])) ha
    · rw [if_neg hc1] at h
      refine px_blk (i' := 58) (L' := [some (.ref 28), some (.int u1), none, some (.int m3), some (.int m4)]) (S' := [.int m4, .int u1, .ref 28, .int m3]) (w' := px_w K s t) (q := []) 4 hM rfl trivial ?_
      rcases px_bi_some h with ⟨v5, s2, t3, hk4, h⟩ | ⟨x6, s2, t3, hk4, h⟩
      · refine px_E_call hM rfl rfl rfl rfl (px_E_mono (by decide) (e_M_blockOf_28 K N u1 m4 s t _ hk4)) ?_
        have hK : px_E px_ET px_P 6 85 63 [some (.ref 28), some (.int u1), none, some (.int m3), some (.int m4)] [.int (if v5 ≤ 0 then (0 : Int32) else (1 : Int32)), .int m3] (px_w K s2 t3) o w2 := by
          refine px_blk (i' := 65) (L' := [some (.ref 28), some (.int u1), none, some (.int (m3 + (if v5 ≤ 0 then (0 : Int32) else (1 : Int32)))), some (.int m4)]) (S' := []) (w' := px_w K s2 t3) (q := []) 2 hM rfl trivial ?_
          obtain ⟨v7, hv8, h⟩ := px_let_some h
          rw [← hv8]
          refine px_blk (i' := 51) (L' := [some (.ref 28), some (.int u1), none, some (.int v7), some (.int (m4 + (1 : Int32)))]) (S' := []) (w' := px_w K s2 t3) (q := []) 2 hM rfl trivial ?_
          exact ih v7 (m4 + (1 : Int32)) s2 t3 z h o w2 ha
        clear h
        refine px_blkif (c := v5 ≤ 0) (t := 62) (e := 60) (L' := [some (.ref 28), some (.int u1), none, some (.int m3), some (.int m4)]) (S' := [.int m3]) (w' := px_w K s2 t3) (q := []) 1 hM rfl trivial (fun hc9 => ?_) (fun hc9 => ?_)
        · rw [if_pos hc9] at hK
          exact px_blk (i' := 63) (L' := [some (.ref 28), some (.int u1), none, some (.int m3), some (.int m4)]) (S' := [.int (0 : Int32), .int m3]) (w' := px_w K s2 t3) (q := []) 1 hM rfl trivial hK
        · rw [if_neg hc9] at hK
          exact px_blk (i' := 63) (L' := [some (.ref 28), some (.int u1), none, some (.int m3), some (.int m4)]) (S' := [.int (1 : Int32), .int m3]) (w' := px_w K s2 t3) (q := []) 2 hM rfl trivial hK
      · cases h
noncomputable def f_M_inode_28 (K : px_K) (N : Nat) (a0 : Int32) (a1 : Int32) (s : px_S) (t : px_W) : Option px_Res :=
  (px_let (sR s 25 (0 : Int32)) (fun s1 => (if (s1.1 29) = 0 then (some (.inl (some (.int (-1 : Int32))), s1, t)) else (if a0 < 0 then (some (.inl (some (.int (-1 : Int32))), s1, t)) else (if (24 : Int32) ≤ a0 then (some (.inl (some (.int (-1 : Int32))), s1, t)) else (if a1 < 0 then (some (.inl (some (.int (-1 : Int32))), s1, t)) else (if a1 ≤ (3 : Int32) then (if (2 : Int32) ≤ a1 then (if ¬ a1 = (2 : Int32) then (px_bi (f_M_ofInode_28 K N a0 (6 : Int32) s1 t) (fun v13 s10 t11 => (px_let (if v13 ≤ 0 then (0 : Int32) else (1 : Int32)) (fun v15 => (px_lp (l_M_inode_28_51 K N N a0 v15 (0 : Int32) s10 t11) (fun i17 vs18 s19 t20 => (if i17 = 67 then (px_v1 vs18 (fun y23 => (some (.inl (some (.int y23)), s19, t20)))) else none)) (fun z22 => some z22))))) (fun x14 s10 t11 => none)) else (px_bi (f_M_isKind_28 K N a0 (1 : Int32) s1 t) (fun v29 s26 t27 => (if v29 = 0 then (some (.inl (some (.int (0 : Int32))), s26, t27)) else (px_bi (f_M_names_28 K N a0 s26 t27) (fun v35 s32 t33 => (some (.inl (some (.int v35)), s32, t33))) (fun x36 s32 t33 => none)))) (fun x30 s26 t27 => none))) else (px_bi (f_M_ofInode_28 K N a0 a1 s1 t) (fun v40 s37 t38 => (some (.inl (some (.int v40)), s37, t38))) (fun x41 s37 t38 => none))) else (some (.inl (some (.int (-1 : Int32))), s1, t)))))))))
set_option maxRecDepth 100000 in
theorem e_M_inode_28 (K : px_K) (N : Nat) (a0 : Int32) (a1 : Int32) (s : px_S) (t : px_W) (r : px_Res) (h : f_M_inode_28 K N a0 a1 s t = some r) : px_E px_ET px_P 6 85 0 (px_ent 5 [.ref 28, .int a0, .int a1]) [] (px_w K s t) r.1 (px_w K r.2.1 r.2.2) := by
  have hM : px_P[85]? = some pm_M_inode := rfl
  unfold f_M_inode_28 at h
  refine px_blk (i' := 3) (L' := [some (.ref 28), some (.int a0), some (.int a1), none, none]) (S' := []) (w' := px_w K (sR s 25 (0 : Int32)) t) (q := []) 3 hM rfl trivial ?_
  obtain ⟨s1, hs2, h⟩ := px_let_some h
  rw [← hs2]
  refine px_blkif (c := (s1.1 29) = 0) (t := 16) (e := 6) (L' := [some (.ref 28), some (.int a0), some (.int a1), none, none]) (S' := []) (w' := px_w K s1 t) (q := []) 3 hM rfl trivial (fun hc3 => ?_) (fun hc3 => ?_)
  · rw [if_pos hc3] at h
    refine px_blk (i' := 17) (L' := [some (.ref 28), some (.int a0), some (.int a1), none, none]) (S' := [.int (-1 : Int32)]) (w' := px_w K s1 t) (q := []) 1 hM rfl trivial ?_
    cases h
    exact px_E_ret hM rfl rfl rfl trivial
  · rw [if_neg hc3] at h
    refine px_blkif (c := a0 < 0) (t := 16) (e := 8) (L' := [some (.ref 28), some (.int a0), some (.int a1), none, none]) (S' := []) (w' := px_w K s1 t) (q := []) 2 hM rfl trivial (fun hc4 => ?_) (fun hc4 => ?_)
    · rw [if_pos hc4] at h
      refine px_blk (i' := 17) (L' := [some (.ref 28), some (.int a0), some (.int a1), none, none]) (S' := [.int (-1 : Int32)]) (w' := px_w K s1 t) (q := []) 1 hM rfl trivial ?_
      cases h
      exact px_E_ret hM rfl rfl rfl trivial
    · rw [if_neg hc4] at h
      refine px_blkif (c := (24 : Int32) ≤ a0) (t := 16) (e := 11) (L' := [some (.ref 28), some (.int a0), some (.int a1), none, none]) (S' := []) (w' := px_w K s1 t) (q := []) 3 hM rfl trivial (fun hc5 => ?_) (fun hc5 => ?_)
      · rw [if_pos hc5] at h
        refine px_blk (i' := 17) (L' := [some (.ref 28), some (.int a0), some (.int a1), none, none]) (S' := [.int (-1 : Int32)]) (w' := px_w K s1 t) (q := []) 1 hM rfl trivial ?_
        cases h
        exact px_E_ret hM rfl rfl rfl trivial
      · rw [if_neg hc5] at h
        refine px_blkif (c := a1 < 0) (t := 16) (e := 13) (L' := [some (.ref 28), some (.int a0), some (.int a1), none, none]) (S' := []) (w' := px_w K s1 t) (q := []) 2 hM rfl trivial (fun hc6 => ?_) (fun hc6 => ?_)
        · rw [if_pos hc6] at h
          refine px_blk (i' := 17) (L' := [some (.ref 28), some (.int a0), some (.int a1), none, none]) (S' := [.int (-1 : Int32)]) (w' := px_w K s1 t) (q := []) 1 hM rfl trivial ?_
          cases h
          exact px_E_ret hM rfl rfl rfl trivial
        · rw [if_neg hc6] at h
          refine px_blkif (c := a1 ≤ (3 : Int32)) (t := 18) (e := 16) (L' := [some (.ref 28), some (.int a0), some (.int a1), none, none]) (S' := []) (w' := px_w K s1 t) (q := []) 3 hM rfl trivial (fun hc7 => ?_) (fun hc7 => ?_)
          · rw [if_pos hc7] at h
            refine px_blkif (c := (2 : Int32) ≤ a1) (t := 26) (e := 21) (L' := [some (.ref 28), some (.int a0), some (.int a1), none, none]) (S' := []) (w' := px_w K s1 t) (q := []) 3 hM rfl trivial (fun hc8 => ?_) (fun hc8 => ?_)
            · rw [if_pos hc8] at h
              refine px_blkif (c := ¬ a1 = (2 : Int32)) (t := 40) (e := 29) (L' := [some (.ref 28), some (.int a0), some (.int a1), none, none]) (S' := []) (w' := px_w K s1 t) (q := []) 3 hM rfl trivial (fun hc9 => ?_) (fun hc9 => ?_)
              · rw [if_pos hc9] at h
                refine px_blk (i' := 43) (L' := [some (.ref 28), some (.int a0), some (.int a1), none, none]) (S' := [.int (6 : Int32), .int a0, .ref 28]) (w' := px_w K s1 t) (q := []) 3 hM rfl trivial ?_
                rcases px_bi_some h with ⟨v13, s10, t11, hk12, h⟩ | ⟨x14, s10, t11, hk12, h⟩
                · refine px_E_call hM rfl rfl rfl rfl (px_E_mono (by decide) (e_M_ofInode_28 K N a0 (6 : Int32) s1 t _ hk12)) ?_
                  have hK : px_E px_ET px_P 6 85 48 [some (.ref 28), some (.int a0), some (.int a1), none, none] [.int (if v13 ≤ 0 then (0 : Int32) else (1 : Int32))] (px_w K s10 t11) r.1 (px_w K r.2.1 r.2.2) := by
                    refine px_blk (i' := 49) (L' := [some (.ref 28), some (.int a0), some (.int a1), some (.int (if v13 ≤ 0 then (0 : Int32) else (1 : Int32))), none]) (S' := []) (w' := px_w K s10 t11) (q := []) 1 hM rfl trivial ?_
                    obtain ⟨v15, hv16, h⟩ := px_let_some h
                    rw [← hv16]
                    refine px_blk (i' := 51) (L' := [some (.ref 28), some (.int a0), some (.int a1), some (.int v15), some (.int (0 : Int32))]) (S' := []) (w' := px_w K s10 t11) (q := []) 2 hM rfl trivial ?_
                    rcases px_lp_some h with ⟨i17, vs18, s19, t20, hl21, h⟩ | ⟨z22, hl21, h⟩
                    · by_cases hi24 : i17 = 67
                      · subst hi24
                        rw [if_pos rfl] at h
                        have h9 := px_v1_some h
                        clear h
                        obtain ⟨y23, rfl, h⟩ := h9
                        refine px_E_le (px_leC_L _ _ (by simp [px_leC, px_le1, Value.category])) (e_l_M_inode_28_51 K N a0 N v15 (0 : Int32) s10 t11 _ hl21 _ _ ?_)
                        show px_E px_ET px_P 6 85 67 [none, none, none, some (.int y23), none] [] (px_w K s19 t20) _ _
                        refine px_blk (i' := 68) (L' := [none, none, none, some (.int y23), none]) (S' := [.int y23]) (w' := px_w K s19 t20) (q := []) 1 hM rfl trivial ?_
                        cases h
                        exact px_E_ret hM rfl rfl rfl trivial
                      · rw [if_neg hi24] at h
                        cases h
                    · cases h
                      exact px_E_le (px_leC_L _ _ (by simp [px_leC, px_le1, Value.category])) (e_l_M_inode_28_51 K N a0 N v15 (0 : Int32) s10 t11 _ hl21 _ _ ⟨rfl, rfl⟩)
                  clear h
                  refine px_blkif (c := v13 ≤ 0) (t := 47) (e := 45) (L' := [some (.ref 28), some (.int a0), some (.int a1), none, none]) (S' := []) (w' := px_w K s10 t11) (q := []) 1 hM rfl trivial (fun hc25 => ?_) (fun hc25 => ?_)
                  · rw [if_pos hc25] at hK
                    exact px_blk (i' := 48) (L' := [some (.ref 28), some (.int a0), some (.int a1), none, none]) (S' := [.int (0 : Int32)]) (w' := px_w K s10 t11) (q := []) 1 hM rfl trivial hK
                  · rw [if_neg hc25] at hK
                    exact px_blk (i' := 48) (L' := [some (.ref 28), some (.int a0), some (.int a1), none, none]) (S' := [.int (1 : Int32)]) (w' := px_w K s10 t11) (q := []) 2 hM rfl trivial hK
                · cases h
              · rw [if_neg hc9] at h
                refine px_blk (i' := 32) (L' := [some (.ref 28), some (.int a0), some (.int a1), none, none]) (S' := [.int (1 : Int32), .int a0, .ref 28]) (w' := px_w K s1 t) (q := []) 3 hM rfl trivial ?_
                rcases px_bi_some h with ⟨v29, s26, t27, hk28, h⟩ | ⟨x30, s26, t27, hk28, h⟩
                · refine px_E_call hM rfl rfl rfl rfl (px_E_mono (by decide) (e_M_isKind_28 K N a0 (1 : Int32) s1 t _ hk28)) ?_
                  refine px_blkif (c := v29 = 0) (t := 38) (e := 34) (L' := [some (.ref 28), some (.int a0), some (.int a1), none, none]) (S' := []) (w' := px_w K s26 t27) (q := []) 1 hM rfl trivial (fun hc31 => ?_) (fun hc31 => ?_)
                  · rw [if_pos hc31] at h
                    refine px_blk (i' := 39) (L' := [some (.ref 28), some (.int a0), some (.int a1), none, none]) (S' := [.int (0 : Int32)]) (w' := px_w K s26 t27) (q := []) 1 hM rfl trivial ?_
                    cases h
                    exact px_E_ret hM rfl rfl rfl trivial
                  · rw [if_neg hc31] at h
                    refine px_blk (i' := 36) (L' := [some (.ref 28), some (.int a0), some (.int a1), none, none]) (S' := [.int a0, .ref 28]) (w' := px_w K s26 t27) (q := []) 2 hM rfl trivial ?_
                    rcases px_bi_some h with ⟨v35, s32, t33, hk34, h⟩ | ⟨x36, s32, t33, hk34, h⟩
                    · refine px_E_call hM rfl rfl rfl rfl (px_E_mono (by decide) (e_M_names_28 K N a0 s26 t27 _ hk34)) ?_
                      refine px_blk (i' := 39) (L' := [some (.ref 28), some (.int a0), some (.int a1), none, none]) (S' := [.int v35]) (w' := px_w K s32 t33) (q := []) 1 hM rfl trivial ?_
                      cases h
                      exact px_E_ret hM rfl rfl rfl trivial
                    · cases h
                · cases h
            · rw [if_neg hc8] at h
              refine px_blk (i' := 24) (L' := [some (.ref 28), some (.int a0), some (.int a1), none, none]) (S' := [.int a1, .int a0, .ref 28]) (w' := px_w K s1 t) (q := []) 3 hM rfl trivial ?_
              rcases px_bi_some h with ⟨v40, s37, t38, hk39, h⟩ | ⟨x41, s37, t38, hk39, h⟩
              · refine px_E_call hM rfl rfl rfl rfl (px_E_mono (by decide) (e_M_ofInode_28 K N a0 a1 s1 t _ hk39)) ?_
                cases h
                exact px_E_ret hM rfl rfl rfl trivial
              · cases h
          · rw [if_neg hc7] at h
            refine px_blk (i' := 17) (L' := [some (.ref 28), some (.int a0), some (.int a1), none, none]) (S' := [.int (-1 : Int32)]) (w' := px_w K s1 t) (q := []) 1 hM rfl trivial ?_
            cases h
            exact px_E_ret hM rfl rfl rfl trivial
