/-! THE METHODS AS FUNCTIONS (by program). -/
noncomputable def f_M_attach_28 (K : px_K) (N : Nat) (s : px_S) (t : px_W) : Option px_Res :=
  (px_let (sR s 25 (0 : Int32)) (fun s1 => (if ¬ (s1.1 29) = 0 then (if (s1.1 31) = 0 then (px_bv (f_M_newFlash_28 K N s1 t) (fun s5 t6 => (px_bi (f_M_read_28 K N (0 : Int32) (0 : Int32) (0 : Int32) s5 t6) (fun v13 s10 t11 => (px_let (v13 + (1 : Int32)) (fun v15 => (px_bv (f_M_three_28_43 K N (1 : Int32) v15 (0 : Int32) s10 t11) (fun s17 t18 => (px_bv (f_M_write_28_43 K N (1 : Int32) (0 : Int32) (0 : Int32) s17 t18) (fun s22 t23 => (px_bv (f_M_flush_28 K N (1 : Int32) s22 t23) (fun s27 t28 => (px_bv (f_M_three_28_43 K N v15 (0 : Int32) (0 : Int32) s27 t28) (fun s32 t33 => (px_bv (f_M_write_28_43 K N (0 : Int32) (0 : Int32) (0 : Int32) s32 t33) (fun s37 t38 => (px_bv (f_M_flush_28 K N (0 : Int32) s37 t38) (fun s42 t43 => (px_bv (f_M_noSlots_28 K N s42 t43) (fun s47 t48 => (px_let (sR s47 31 (1 : Int32)) (fun s52 => (px_let (sR s52 33 (0 : Int32)) (fun s54 => (px_let (sR s54 34 (1 : Int32)) (fun s56 => (px_let (sR s56 35 (0 : Int32)) (fun s58 => (px_bi (f_M_landed_28 K N s58 t48) (fun v63 s60 t61 => (px_let (sR s60 32 (v63 + (1 : Int32))) (fun s65 => (px_bi (f_M_answer_28 K N (0 : Int32) s65 t61) (fun v70 s67 t68 => (some (.inl (some (.int v70)), s67, t68))) (fun x71 s67 t68 => none))))) (fun x64 s60 t61 => none))))))))))) (fun x51 s47 t48 => none))) (fun x46 s42 t43 => none))) (fun x41 s37 t38 => none))) (fun x36 s32 t33 => none))) (fun x31 s27 t28 => none))) (fun x26 s22 t23 => none))) (fun x21 s17 t18 => none))))) (fun x14 s10 t11 => none))) (fun x9 s5 t6 => none)) else (some (.inl (some (.int (-4 : Int32))), s1, t))) else (some (.inl (some (.int (-9 : Int32))), s1, t)))))
set_option maxRecDepth 100000 in
theorem e_M_attach_28 (K : px_K) (N : Nat) (s : px_S) (t : px_W) (r : px_Res) (h : f_M_attach_28 K N s t = some r) : px_E px_ET px_P 6 104 0 (px_ent 2 [.ref 28]) [] (px_w K s t) r.1 (px_w K r.2.1 r.2.2) := by
  have hM : px_P[104]? = some pm_M_attach := rfl
  unfold f_M_attach_28 at h
  refine px_blk (i' := 3) (L' := [some (.ref 28), none]) (S' := []) (w' := px_w K (sR s 25 (0 : Int32)) t) (q := []) 3 hM rfl trivial ?_
  obtain ⟨s1, hs2, h⟩ := px_let_some h
  rw [← hs2]
  refine px_blkif (c := ¬ (s1.1 29) = 0) (t := 8) (e := 6) (L' := [some (.ref 28), none]) (S' := []) (w' := px_w K s1 t) (q := []) 3 hM rfl trivial (fun hc3 => ?_) (fun hc3 => ?_)
  · rw [if_pos hc3] at h
    refine px_blkif (c := (s1.1 31) = 0) (t := 13) (e := 11) (L' := [some (.ref 28), none]) (S' := []) (w' := px_w K s1 t) (q := []) 3 hM rfl trivial (fun hc4 => ?_) (fun hc4 => ?_)
    · rw [if_pos hc4] at h
      refine px_blk (i' := 14) (L' := [some (.ref 28), none]) (S' := [.ref 28]) (w' := px_w K s1 t) (q := []) 1 hM rfl trivial ?_
      rcases px_bv_some h with ⟨s5, t6, hk7, h⟩ | ⟨x9, s5, t6, hk7, h⟩
      · refine px_E_call hM rfl rfl rfl rfl (px_E_mono (by decide) (e_M_newFlash_28 K N s1 t _ hk7)) ?_
        refine px_blk (i' := 19) (L' := [some (.ref 28), none]) (S' := [.int (0 : Int32), .int (0 : Int32), .int (0 : Int32), .ref 28]) (w' := px_w K s5 t6) (q := []) 4 hM rfl trivial ?_
        rcases px_bi_some h with ⟨v13, s10, t11, hk12, h⟩ | ⟨x14, s10, t11, hk12, h⟩
        · refine px_E_call hM rfl rfl rfl rfl (px_E_mono (by decide) (e_M_read_28 K N (0 : Int32) (0 : Int32) (0 : Int32) s5 t6 _ hk12)) ?_
          refine px_blk (i' := 23) (L' := [some (.ref 28), some (.int (v13 + (1 : Int32)))]) (S' := []) (w' := px_w K s10 t11) (q := []) 3 hM rfl trivial ?_
          obtain ⟨v15, hv16, h⟩ := px_let_some h
          rw [← hv16]
          refine px_blk (i' := 29) (L' := [some (.ref 28), some (.int v15)]) (S' := [.int (0 : Int32), .int v15, .int (1 : Int32), .ref 43, .ref 28]) (w' := px_w K s10 t11) (q := []) 6 hM rfl trivial ?_
          rcases px_bv_some h with ⟨s17, t18, hk19, h⟩ | ⟨x21, s17, t18, hk19, h⟩
          · refine px_E_call hM rfl rfl rfl rfl (px_E_mono (by decide) (e_M_three_28_43 K N (1 : Int32) v15 (0 : Int32) s10 t11 _ hk19)) ?_
            refine px_blk (i' := 36) (L' := [some (.ref 28), some (.int v15)]) (S' := [.int (0 : Int32), .ref 43, .int (0 : Int32), .int (1 : Int32), .ref 28]) (w' := px_w K s17 t18) (q := []) 6 hM rfl trivial ?_
            rcases px_bv_some h with ⟨s22, t23, hk24, h⟩ | ⟨x26, s22, t23, hk24, h⟩
            · refine px_E_call hM rfl rfl rfl rfl (px_E_mono (by decide) (e_M_write_28_43 K N (1 : Int32) (0 : Int32) (0 : Int32) s17 t18 _ hk24)) ?_
              refine px_blk (i' := 39) (L' := [some (.ref 28), some (.int v15)]) (S' := [.int (1 : Int32), .ref 28]) (w' := px_w K s22 t23) (q := []) 2 hM rfl trivial ?_
              rcases px_bv_some h with ⟨s27, t28, hk29, h⟩ | ⟨x31, s27, t28, hk29, h⟩
              · refine px_E_call hM rfl rfl rfl rfl (px_E_mono (by decide) (e_M_flush_28 K N (1 : Int32) s22 t23 _ hk29)) ?_
                refine px_blk (i' := 46) (L' := [some (.ref 28), some (.int v15)]) (S' := [.int (0 : Int32), .int (0 : Int32), .int v15, .ref 43, .ref 28]) (w' := px_w K s27 t28) (q := []) 6 hM rfl trivial ?_
                rcases px_bv_some h with ⟨s32, t33, hk34, h⟩ | ⟨x36, s32, t33, hk34, h⟩
                · refine px_E_call hM rfl rfl rfl rfl (px_E_mono (by decide) (e_M_three_28_43 K N v15 (0 : Int32) (0 : Int32) s27 t28 _ hk34)) ?_
                  refine px_blk (i' := 53) (L' := [some (.ref 28), some (.int v15)]) (S' := [.int (0 : Int32), .ref 43, .int (0 : Int32), .int (0 : Int32), .ref 28]) (w' := px_w K s32 t33) (q := []) 6 hM rfl trivial ?_
                  rcases px_bv_some h with ⟨s37, t38, hk39, h⟩ | ⟨x41, s37, t38, hk39, h⟩
                  · refine px_E_call hM rfl rfl rfl rfl (px_E_mono (by decide) (e_M_write_28_43 K N (0 : Int32) (0 : Int32) (0 : Int32) s32 t33 _ hk39)) ?_
                    refine px_blk (i' := 56) (L' := [some (.ref 28), some (.int v15)]) (S' := [.int (0 : Int32), .ref 28]) (w' := px_w K s37 t38) (q := []) 2 hM rfl trivial ?_
                    rcases px_bv_some h with ⟨s42, t43, hk44, h⟩ | ⟨x46, s42, t43, hk44, h⟩
                    · refine px_E_call hM rfl rfl rfl rfl (px_E_mono (by decide) (e_M_flush_28 K N (0 : Int32) s37 t38 _ hk44)) ?_
                      refine px_blk (i' := 58) (L' := [some (.ref 28), some (.int v15)]) (S' := [.ref 28]) (w' := px_w K s42 t43) (q := []) 1 hM rfl trivial ?_
                      rcases px_bv_some h with ⟨s47, t48, hk49, h⟩ | ⟨x51, s47, t48, hk49, h⟩
                      · refine px_E_call hM rfl rfl rfl rfl (px_E_mono (by decide) (e_M_noSlots_28 K N s42 t43 _ hk49)) ?_
                        refine px_blk (i' := 62) (L' := [some (.ref 28), some (.int v15)]) (S' := []) (w' := px_w K (sR s47 31 (1 : Int32)) t48) (q := [(1 : Int32) = 0 ∨ (1 : Int32) = 1]) 3 hM rfl (show (1 : Int32) = 0 ∨ (1 : Int32) = 1 from Or.inr rfl) ?_
                        obtain ⟨s52, hs53, h⟩ := px_let_some h
                        rw [← hs53]
                        refine px_blk (i' := 65) (L' := [some (.ref 28), some (.int v15)]) (S' := []) (w' := px_w K (sR s52 33 (0 : Int32)) t48) (q := []) 3 hM rfl trivial ?_
                        obtain ⟨s54, hs55, h⟩ := px_let_some h
                        rw [← hs55]
                        refine px_blk (i' := 68) (L' := [some (.ref 28), some (.int v15)]) (S' := []) (w' := px_w K (sR s54 34 (1 : Int32)) t48) (q := []) 3 hM rfl trivial ?_
                        obtain ⟨s56, hs57, h⟩ := px_let_some h
                        rw [← hs57]
                        refine px_blk (i' := 71) (L' := [some (.ref 28), some (.int v15)]) (S' := []) (w' := px_w K (sR s56 35 (0 : Int32)) t48) (q := []) 3 hM rfl trivial ?_
                        obtain ⟨s58, hs59, h⟩ := px_let_some h
                        rw [← hs59]
                        refine px_blk (i' := 73) (L' := [some (.ref 28), some (.int v15)]) (S' := [.ref 28, .ref 28]) (w' := px_w K s58 t48) (q := []) 2 hM rfl trivial ?_
                        rcases px_bi_some h with ⟨v63, s60, t61, hk62, h⟩ | ⟨x64, s60, t61, hk62, h⟩
                        · refine px_E_call hM rfl rfl rfl rfl (px_E_mono (by decide) (e_M_landed_28 K N s58 t48 _ hk62)) ?_
                          refine px_blk (i' := 77) (L' := [some (.ref 28), some (.int v15)]) (S' := []) (w' := px_w K (sR s60 32 (v63 + (1 : Int32))) t61) (q := []) 3 hM rfl trivial ?_
                          obtain ⟨s65, hs66, h⟩ := px_let_some h
                          rw [← hs66]
                          refine px_blk (i' := 79) (L' := [some (.ref 28), some (.int v15)]) (S' := [.int (0 : Int32), .ref 28]) (w' := px_w K s65 t61) (q := []) 2 hM rfl trivial ?_
                          rcases px_bi_some h with ⟨v70, s67, t68, hk69, h⟩ | ⟨x71, s67, t68, hk69, h⟩
                          · refine px_E_call hM rfl rfl rfl rfl (px_E_mono (by decide) (e_M_answer_28 K N (0 : Int32) s65 t61 _ hk69)) ?_
                            cases h
                            exact px_E_ret hM rfl rfl rfl trivial
                          · cases h
                        · cases h
                      · cases h
                    · cases h
                  · cases h
                · cases h
              · cases h
            · cases h
          · cases h
        · cases h
      · cases h
    · rw [if_neg hc4] at h
      refine px_blk (i' := 12) (L' := [some (.ref 28), none]) (S' := [.int (-4 : Int32)]) (w' := px_w K s1 t) (q := []) 1 hM rfl trivial ?_
      cases h
      exact px_E_ret hM rfl rfl rfl trivial
  · rw [if_neg hc3] at h
    refine px_blk (i' := 7) (L' := [some (.ref 28), none]) (S' := [.int (-9 : Int32)]) (w' := px_w K s1 t) (q := []) 1 hM rfl trivial ?_
    cases h
    exact px_E_ret hM rfl rfl rfl trivial
noncomputable def f_M_slot_28 (K : px_K) (N : Nat) (a0 : Int32) (a1 : Int32) (s : px_S) (t : px_W) : Option px_Res :=
  (px_let (sR s 25 (0 : Int32)) (fun s1 => (if (s1.1 29) = 0 then (some (.inl (some (.int (-1 : Int32))), s1, t)) else (if (s1.1 31) = 0 then (some (.inl (some (.int (-1 : Int32))), s1, t)) else (if a0 < 0 then (some (.inl (some (.int (-1 : Int32))), s1, t)) else (if a0 < ((s1.1 26) * (s1.1 27)) then (if a1.toInt = 0 then (px_gd (vp_in a0 (K.2.2 35)) (if 0 ≤ ((s1.2.2.1 35) a0.toNatClampNeg) then (px_gd (vp_in a0 (K.2.2 36)) (some (.inl (some (.int (if ¬ ((s1.2.2.1 36) a0.toNatClampNeg) = 0 then (2 : Int32) else (1 : Int32)))), s1, t))) else (some (.inl (some (.int (0 : Int32))), s1, t)))) else (if a1.toInt = 1 then (px_gd (vp_in a0 (K.2.2 35)) (some (.inl (some (.int ((s1.2.2.1 35) a0.toNatClampNeg))), s1, t))) else (if a1.toInt = 2 then (px_gd (vp_in a0 (K.2.2 36)) (some (.inl (some (.int ((s1.2.2.1 36) a0.toNatClampNeg))), s1, t))) else (if a1.toInt = 3 then (px_gd (vp_in a0 (K.2.2 37)) (some (.inl (some (.int (if ((s1.2.2.1 37) a0.toNatClampNeg) = 0 then (0 : Int32) else (1 : Int32)))), s1, t))) else (if a1.toInt = 4 then (px_gd ((¬ (s1.1 27) = 0) ∧ (vp_in (a0 / (s1.1 27)) (K.2.2 38)) ∧ (¬ (s1.1 27) = 0)) (some (.inl (some (.int (if ¬ ((s1.2.2.1 38) (a0 / (s1.1 27)).toNatClampNeg) = (a0 - a0 / (s1.1 27) * (s1.1 27)) then (0 : Int32) else (1 : Int32)))), s1, t))) else (some (.inl (some (.int (-1 : Int32))), s1, t))))))) else (some (.inl (some (.int (-1 : Int32))), s1, t))))))))
set_option maxRecDepth 100000 in
theorem e_M_slot_28 (K : px_K) (N : Nat) (a0 : Int32) (a1 : Int32) (s : px_S) (t : px_W) (r : px_Res) (h : f_M_slot_28 K N a0 a1 s t = some r) : px_E px_ET px_P 1 105 0 (px_ent 3 [.ref 28, .int a0, .int a1]) [] (px_w K s t) r.1 (px_w K r.2.1 r.2.2) := by
  have hM : px_P[105]? = some pm_M_slot := rfl
  unfold f_M_slot_28 at h
  refine px_blk (i' := 3) (L' := [some (.ref 28), some (.int a0), some (.int a1)]) (S' := []) (w' := px_w K (sR s 25 (0 : Int32)) t) (q := []) 3 hM rfl trivial ?_
  obtain ⟨s1, hs2, h⟩ := px_let_some h
  rw [← hs2]
  refine px_blkif (c := (s1.1 29) = 0) (t := 18) (e := 6) (L' := [some (.ref 28), some (.int a0), some (.int a1)]) (S' := []) (w' := px_w K s1 t) (q := []) 3 hM rfl trivial (fun hc3 => ?_) (fun hc3 => ?_)
  · rw [if_pos hc3] at h
    refine px_blk (i' := 19) (L' := [some (.ref 28), some (.int a0), some (.int a1)]) (S' := [.int (-1 : Int32)]) (w' := px_w K s1 t) (q := []) 1 hM rfl trivial ?_
    cases h
    exact px_E_ret hM rfl rfl rfl trivial
  · rw [if_neg hc3] at h
    refine px_blkif (c := (s1.1 31) = 0) (t := 18) (e := 9) (L' := [some (.ref 28), some (.int a0), some (.int a1)]) (S' := []) (w' := px_w K s1 t) (q := []) 3 hM rfl trivial (fun hc4 => ?_) (fun hc4 => ?_)
    · rw [if_pos hc4] at h
      refine px_blk (i' := 19) (L' := [some (.ref 28), some (.int a0), some (.int a1)]) (S' := [.int (-1 : Int32)]) (w' := px_w K s1 t) (q := []) 1 hM rfl trivial ?_
      cases h
      exact px_E_ret hM rfl rfl rfl trivial
    · rw [if_neg hc4] at h
      refine px_blkif (c := a0 < 0) (t := 18) (e := 11) (L' := [some (.ref 28), some (.int a0), some (.int a1)]) (S' := []) (w' := px_w K s1 t) (q := []) 2 hM rfl trivial (fun hc5 => ?_) (fun hc5 => ?_)
      · rw [if_pos hc5] at h
        refine px_blk (i' := 19) (L' := [some (.ref 28), some (.int a0), some (.int a1)]) (S' := [.int (-1 : Int32)]) (w' := px_w K s1 t) (q := []) 1 hM rfl trivial ?_
        cases h
        exact px_E_ret hM rfl rfl rfl trivial
      · rw [if_neg hc5] at h
        refine px_blkif (c := a0 < ((s1.1 26) * (s1.1 27))) (t := 20) (e := 18) (L' := [some (.ref 28), some (.int a0), some (.int a1)]) (S' := []) (w' := px_w K s1 t) (q := []) 7 hM rfl trivial (fun hc6 => ?_) (fun hc6 => ?_)
        · rw [if_pos hc6] at h
          refine px_blk (i' := 21) (L' := [some (.ref 28), some (.int a0), some (.int a1)]) (S' := [.int a1]) (w' := px_w K s1 t) (q := []) 1 hM rfl trivial ?_
          by_cases hs7 : a1.toInt = 0
          · rw [if_pos hs7] at h
            refine px_E_step hM rfl rfl (px_tb_at hs7 rfl) trivial ?_
            obtain ⟨hq8, h⟩ := px_gd_some h
            refine px_blkif (c := 0 ≤ ((s1.2.2.1 35) a0.toNatClampNeg)) (t := 29) (e := 27) (L' := [some (.ref 28), some (.int a0), some (.int a1)]) (S' := []) (w' := px_w K s1 t) (q := [vp_in a0 (K.2.2 35)]) 5 hM rfl (show vp_in a0 (K.2.2 35) from hq8) (fun hc9 => ?_) (fun hc9 => ?_)
            · rw [if_pos hc9] at h
              obtain ⟨hq10, h⟩ := px_gd_some h
              refine px_blk (i' := 33) (L' := [some (.ref 28), some (.int a0), some (.int a1)]) (S' := [.int ((s1.2.2.1 36) a0.toNatClampNeg)]) (w' := px_w K s1 t) (q := [vp_in a0 (K.2.2 36)]) 4 hM rfl (show vp_in a0 (K.2.2 36) from hq10) ?_
              have hK : px_E px_ET px_P 1 105 37 [some (.ref 28), some (.int a0), some (.int a1)] [.int (if ¬ ((s1.2.2.1 36) a0.toNatClampNeg) = 0 then (2 : Int32) else (1 : Int32))] (px_w K s1 t) r.1 (px_w K r.2.1 r.2.2) := by
                cases h
                exact px_E_ret hM rfl rfl rfl trivial
              clear h
              refine px_blkif (c := ¬ ((s1.2.2.1 36) a0.toNatClampNeg) = 0) (t := 36) (e := 34) (L' := [some (.ref 28), some (.int a0), some (.int a1)]) (S' := []) (w' := px_w K s1 t) (q := []) 1 hM rfl trivial (fun hc11 => ?_) (fun hc11 => ?_)
              · rw [if_pos hc11] at hK
                exact px_blk (i' := 37) (L' := [some (.ref 28), some (.int a0), some (.int a1)]) (S' := [.int (2 : Int32)]) (w' := px_w K s1 t) (q := []) 1 hM rfl trivial hK
              · rw [if_neg hc11] at hK
                exact px_blk (i' := 37) (L' := [some (.ref 28), some (.int a0), some (.int a1)]) (S' := [.int (1 : Int32)]) (w' := px_w K s1 t) (q := []) 2 hM rfl trivial hK
            · rw [if_neg hc9] at h
              refine px_blk (i' := 37) (L' := [some (.ref 28), some (.int a0), some (.int a1)]) (S' := [.int (0 : Int32)]) (w' := px_w K s1 t) (q := []) 2 hM rfl trivial ?_
              cases h
              exact px_E_ret hM rfl rfl rfl trivial
          · rw [if_neg hs7] at h
            by_cases hs12 : a1.toInt = 1
            · rw [if_pos hs12] at h
              refine px_E_step hM rfl rfl (px_tb_at hs12 rfl) trivial ?_
              obtain ⟨hq13, h⟩ := px_gd_some h
              refine px_blk (i' := 42) (L' := [some (.ref 28), some (.int a0), some (.int a1)]) (S' := [.int ((s1.2.2.1 35) a0.toNatClampNeg)]) (w' := px_w K s1 t) (q := [vp_in a0 (K.2.2 35)]) 4 hM rfl (show vp_in a0 (K.2.2 35) from hq13) ?_
              cases h
              exact px_E_ret hM rfl rfl rfl trivial
            · rw [if_neg hs12] at h
              by_cases hs14 : a1.toInt = 2
              · rw [if_pos hs14] at h
                refine px_E_step hM rfl rfl (px_tb_at hs14 rfl) trivial ?_
                obtain ⟨hq15, h⟩ := px_gd_some h
                refine px_blk (i' := 47) (L' := [some (.ref 28), some (.int a0), some (.int a1)]) (S' := [.int ((s1.2.2.1 36) a0.toNatClampNeg)]) (w' := px_w K s1 t) (q := [vp_in a0 (K.2.2 36)]) 4 hM rfl (show vp_in a0 (K.2.2 36) from hq15) ?_
                cases h
                exact px_E_ret hM rfl rfl rfl trivial
              · rw [if_neg hs14] at h
                by_cases hs16 : a1.toInt = 3
                · rw [if_pos hs16] at h
                  refine px_E_step hM rfl rfl (px_tb_at hs16 rfl) trivial ?_
                  obtain ⟨hq17, h⟩ := px_gd_some h
                  refine px_blk (i' := 52) (L' := [some (.ref 28), some (.int a0), some (.int a1)]) (S' := [.int ((s1.2.2.1 37) a0.toNatClampNeg)]) (w' := px_w K s1 t) (q := [vp_in a0 (K.2.2 37)]) 4 hM rfl (show vp_in a0 (K.2.2 37) from hq17) ?_
                  have hK : px_E px_ET px_P 1 105 56 [some (.ref 28), some (.int a0), some (.int a1)] [.int (if ((s1.2.2.1 37) a0.toNatClampNeg) = 0 then (0 : Int32) else (1 : Int32))] (px_w K s1 t) r.1 (px_w K r.2.1 r.2.2) := by
                    cases h
                    exact px_E_ret hM rfl rfl rfl trivial
                  clear h
                  refine px_blkif (c := ((s1.2.2.1 37) a0.toNatClampNeg) = 0) (t := 55) (e := 53) (L' := [some (.ref 28), some (.int a0), some (.int a1)]) (S' := []) (w' := px_w K s1 t) (q := []) 1 hM rfl trivial (fun hc18 => ?_) (fun hc18 => ?_)
                  · rw [if_pos hc18] at hK
                    exact px_blk (i' := 56) (L' := [some (.ref 28), some (.int a0), some (.int a1)]) (S' := [.int (0 : Int32)]) (w' := px_w K s1 t) (q := []) 1 hM rfl trivial hK
                  · rw [if_neg hc18] at hK
                    exact px_blk (i' := 56) (L' := [some (.ref 28), some (.int a0), some (.int a1)]) (S' := [.int (1 : Int32)]) (w' := px_w K s1 t) (q := []) 2 hM rfl trivial hK
                · rw [if_neg hs16] at h
                  by_cases hs19 : a1.toInt = 4
                  · rw [if_pos hs19] at h
                    refine px_E_step hM rfl rfl (px_tb_at hs19 rfl) trivial ?_
                    obtain ⟨⟨hq20, hq21, hq22⟩, h⟩ := px_gd_some h
                    refine px_blk (i' := 68) (L' := [some (.ref 28), some (.int a0), some (.int a1)]) (S' := [.int (a0 - a0 / (s1.1 27) * (s1.1 27)), .int ((s1.2.2.1 38) (a0 / (s1.1 27)).toNatClampNeg)]) (w' := px_w K s1 t) (q := [¬ (s1.1 27) = 0, vp_in (a0 / (s1.1 27)) (K.2.2 38), ¬ (s1.1 27) = 0]) 11 hM rfl (show (¬ (s1.1 27) = 0) ∧ (vp_in (a0 / (s1.1 27)) (K.2.2 38)) ∧ (¬ (s1.1 27) = 0) from ⟨hq20, hq21, hq22⟩) ?_
                    have hK : px_E px_ET px_P 1 105 72 [some (.ref 28), some (.int a0), some (.int a1)] [.int (if ¬ ((s1.2.2.1 38) (a0 / (s1.1 27)).toNatClampNeg) = (a0 - a0 / (s1.1 27) * (s1.1 27)) then (0 : Int32) else (1 : Int32))] (px_w K s1 t) r.1 (px_w K r.2.1 r.2.2) := by
                      cases h
                      exact px_E_ret hM rfl rfl rfl trivial
                    clear h
                    refine px_blkif (c := ¬ ((s1.2.2.1 38) (a0 / (s1.1 27)).toNatClampNeg) = (a0 - a0 / (s1.1 27) * (s1.1 27))) (t := 71) (e := 69) (L' := [some (.ref 28), some (.int a0), some (.int a1)]) (S' := []) (w' := px_w K s1 t) (q := []) 1 hM rfl trivial (fun hc23 => ?_) (fun hc23 => ?_)
                    · rw [if_pos hc23] at hK
                      exact px_blk (i' := 72) (L' := [some (.ref 28), some (.int a0), some (.int a1)]) (S' := [.int (0 : Int32)]) (w' := px_w K s1 t) (q := []) 1 hM rfl trivial hK
                    · rw [if_neg hc23] at hK
                      exact px_blk (i' := 72) (L' := [some (.ref 28), some (.int a0), some (.int a1)]) (S' := [.int (1 : Int32)]) (w' := px_w K s1 t) (q := []) 2 hM rfl trivial hK
                  · rw [if_neg hs19] at h
                    refine px_E_step hM rfl rfl (px_tb_df (by omega) rfl) trivial ?_
                    refine px_blk (i' := 74) (L' := [some (.ref 28), some (.int a0), some (.int a1)]) (S' := [.int (-1 : Int32)]) (w' := px_w K s1 t) (q := []) 1 hM rfl trivial ?_
                    cases h
                    exact px_E_ret hM rfl rfl rfl trivial
        · rw [if_neg hc6] at h
          refine px_blk (i' := 19) (L' := [some (.ref 28), some (.int a0), some (.int a1)]) (S' := [.int (-1 : Int32)]) (w' := px_w K s1 t) (q := []) 1 hM rfl trivial ?_
          cases h
          exact px_E_ret hM rfl rfl rfl trivial
noncomputable def f_M_word2_28 (K : px_K) (N : Nat) (a0 : Int32) (a1 : Int32) (a2 : Int32) (a3 : Int32) (s : px_S) (t : px_W) : Option px_Res :=
  (px_let (sR s 25 (0 : Int32)) (fun s1 => (px_let (if ¬ a0 = 0 then (if ¬ a0 = (1 : Int32) then (0 : Int32) else ((50 : Int32) + ((s1.1 26) * (s1.1 27)))) else (125 : Int32)) (fun v3 => (if a1 < 0 then (some (.inl (some (.int (-2147483648 : Int32))), s1, t)) else (if v3 ≤ a1 then (some (.inl (some (.int (-2147483648 : Int32))), s1, t)) else (if a2 < 0 then (some (.inl (some (.int (-2147483648 : Int32))), s1, t)) else (if a2 < (16 : Int32) then (if a3 = 0 then (px_bi (f_M_read_28 K N a0 a1 a2 s1 t) (fun v13 s10 t11 => (some (.inl (some (.int v13)), s10, t11))) (fun x14 s10 t11 => none)) else (px_bi (f_M_at K N a0 a1 s1 t) (fun v18 s15 t16 => (px_gd (vp_in (v18 + a2) (K.2.2 29)) (some (.inl (some (.int ((s15.2.2.1 29) (v18 + a2).toNatClampNeg))), s15, t16)))) (fun x19 s15 t16 => none))) else (some (.inl (some (.int (-2147483648 : Int32))), s1, t))))))))))
set_option maxRecDepth 100000 in
theorem e_M_word2_28 (K : px_K) (N : Nat) (a0 : Int32) (a1 : Int32) (a2 : Int32) (a3 : Int32) (s : px_S) (t : px_W) (r : px_Res) (h : f_M_word2_28 K N a0 a1 a2 a3 s t = some r) : px_E px_ET px_P 3 106 0 (px_ent 6 [.ref 28, .int a0, .int a1, .int a2, .int a3]) [] (px_w K s t) r.1 (px_w K r.2.1 r.2.2) := by
  have hM : px_P[106]? = some pm_M_word2 := rfl
  unfold f_M_word2_28 at h
  refine px_blk (i' := 3) (L' := [some (.ref 28), some (.int a0), some (.int a1), some (.int a2), some (.int a3), none]) (S' := []) (w' := px_w K (sR s 25 (0 : Int32)) t) (q := []) 3 hM rfl trivial ?_
  obtain ⟨s1, hs2, h⟩ := px_let_some h
  rw [← hs2]
  refine px_blk (i' := 4) (L' := [some (.ref 28), some (.int a0), some (.int a1), some (.int a2), some (.int a3), none]) (S' := [.int a0]) (w' := px_w K s1 t) (q := []) 1 hM rfl trivial ?_
  have hK : px_E px_ET px_P 3 106 19 [some (.ref 28), some (.int a0), some (.int a1), some (.int a2), some (.int a3), none] [.int (if ¬ a0 = 0 then (if ¬ a0 = (1 : Int32) then (0 : Int32) else ((50 : Int32) + ((s1.1 26) * (s1.1 27)))) else (125 : Int32))] (px_w K s1 t) r.1 (px_w K r.2.1 r.2.2) := by
    refine px_blk (i' := 20) (L' := [some (.ref 28), some (.int a0), some (.int a1), some (.int a2), some (.int a3), some (.int (if ¬ a0 = 0 then (if ¬ a0 = (1 : Int32) then (0 : Int32) else ((50 : Int32) + ((s1.1 26) * (s1.1 27)))) else (125 : Int32)))]) (S' := []) (w' := px_w K s1 t) (q := []) 1 hM rfl trivial ?_
    obtain ⟨v3, hv4, h⟩ := px_let_some h
    rw [← hv4]
    refine px_blkif (c := a1 < 0) (t := 30) (e := 22) (L' := [some (.ref 28), some (.int a0), some (.int a1), some (.int a2), some (.int a3), some (.int v3)]) (S' := []) (w' := px_w K s1 t) (q := []) 2 hM rfl trivial (fun hc5 => ?_) (fun hc5 => ?_)
    · rw [if_pos hc5] at h
      refine px_blk (i' := 31) (L' := [some (.ref 28), some (.int a0), some (.int a1), some (.int a2), some (.int a3), some (.int v3)]) (S' := [.int (-2147483648 : Int32)]) (w' := px_w K s1 t) (q := []) 1 hM rfl trivial ?_
      cases h
      exact px_E_ret hM rfl rfl rfl trivial
    · rw [if_neg hc5] at h
      refine px_blkif (c := v3 ≤ a1) (t := 30) (e := 25) (L' := [some (.ref 28), some (.int a0), some (.int a1), some (.int a2), some (.int a3), some (.int v3)]) (S' := []) (w' := px_w K s1 t) (q := []) 3 hM rfl trivial (fun hc6 => ?_) (fun hc6 => ?_)
      · rw [if_pos hc6] at h
        refine px_blk (i' := 31) (L' := [some (.ref 28), some (.int a0), some (.int a1), some (.int a2), some (.int a3), some (.int v3)]) (S' := [.int (-2147483648 : Int32)]) (w' := px_w K s1 t) (q := []) 1 hM rfl trivial ?_
        cases h
        exact px_E_ret hM rfl rfl rfl trivial
      · rw [if_neg hc6] at h
        refine px_blkif (c := a2 < 0) (t := 30) (e := 27) (L' := [some (.ref 28), some (.int a0), some (.int a1), some (.int a2), some (.int a3), some (.int v3)]) (S' := []) (w' := px_w K s1 t) (q := []) 2 hM rfl trivial (fun hc7 => ?_) (fun hc7 => ?_)
        · rw [if_pos hc7] at h
          refine px_blk (i' := 31) (L' := [some (.ref 28), some (.int a0), some (.int a1), some (.int a2), some (.int a3), some (.int v3)]) (S' := [.int (-2147483648 : Int32)]) (w' := px_w K s1 t) (q := []) 1 hM rfl trivial ?_
          cases h
          exact px_E_ret hM rfl rfl rfl trivial
        · rw [if_neg hc7] at h
          refine px_blkif (c := a2 < (16 : Int32)) (t := 32) (e := 30) (L' := [some (.ref 28), some (.int a0), some (.int a1), some (.int a2), some (.int a3), some (.int v3)]) (S' := []) (w' := px_w K s1 t) (q := []) 3 hM rfl trivial (fun hc8 => ?_) (fun hc8 => ?_)
          · rw [if_pos hc8] at h
            refine px_blkif (c := a3 = 0) (t := 43) (e := 34) (L' := [some (.ref 28), some (.int a0), some (.int a1), some (.int a2), some (.int a3), some (.int v3)]) (S' := []) (w' := px_w K s1 t) (q := []) 2 hM rfl trivial (fun hc9 => ?_) (fun hc9 => ?_)
            · rw [if_pos hc9] at h
              refine px_blk (i' := 47) (L' := [some (.ref 28), some (.int a0), some (.int a1), some (.int a2), some (.int a3), some (.int v3)]) (S' := [.int a2, .int a1, .int a0, .ref 28]) (w' := px_w K s1 t) (q := []) 4 hM rfl trivial ?_
              rcases px_bi_some h with ⟨v13, s10, t11, hk12, h⟩ | ⟨x14, s10, t11, hk12, h⟩
              · refine px_E_call hM rfl rfl rfl rfl (px_E_mono (by decide) (e_M_read_28 K N a0 a1 a2 s1 t _ hk12)) ?_
                cases h
                exact px_E_ret hM rfl rfl rfl trivial
              · cases h
            · rw [if_neg hc9] at h
              refine px_blk (i' := 38) (L' := [some (.ref 28), some (.int a0), some (.int a1), some (.int a2), some (.int a3), some (.int v3)]) (S' := [.int a1, .int a0, .ref 29]) (w' := px_w K s1 t) (q := []) 4 hM rfl trivial ?_
              rcases px_bi_some h with ⟨v18, s15, t16, hk17, h⟩ | ⟨x19, s15, t16, hk17, h⟩
              · refine px_E_call hM rfl rfl rfl rfl (px_E_mono (by decide) (e_M_at K N a0 a1 s1 t _ hk17)) ?_
                obtain ⟨hq20, h⟩ := px_gd_some h
                refine px_blk (i' := 48) (L' := [some (.ref 28), some (.int a0), some (.int a1), some (.int a2), some (.int a3), some (.int v3)]) (S' := [.int ((s15.2.2.1 29) (v18 + a2).toNatClampNeg)]) (w' := px_w K s15 t16) (q := [vp_in (v18 + a2) (K.2.2 29)]) 4 hM rfl (show vp_in (v18 + a2) (K.2.2 29) from hq20) ?_
                cases h
                exact px_E_ret hM rfl rfl rfl trivial
              · cases h
          · rw [if_neg hc8] at h
            refine px_blk (i' := 31) (L' := [some (.ref 28), some (.int a0), some (.int a1), some (.int a2), some (.int a3), some (.int v3)]) (S' := [.int (-2147483648 : Int32)]) (w' := px_w K s1 t) (q := []) 1 hM rfl trivial ?_
            cases h
            exact px_E_ret hM rfl rfl rfl trivial
  clear h
  refine px_blkif (c := ¬ a0 = 0) (t := 7) (e := 5) (L' := [some (.ref 28), some (.int a0), some (.int a1), some (.int a2), some (.int a3), none]) (S' := []) (w' := px_w K s1 t) (q := []) 1 hM rfl trivial (fun hc21 => ?_) (fun hc21 => ?_)
  · rw [if_pos hc21] at hK
    refine px_blkif (c := ¬ a0 = (1 : Int32)) (t := 18) (e := 10) (L' := [some (.ref 28), some (.int a0), some (.int a1), some (.int a2), some (.int a3), none]) (S' := []) (w' := px_w K s1 t) (q := []) 3 hM rfl trivial (fun hc22 => ?_) (fun hc22 => ?_)
    · rw [if_pos hc22] at hK
      exact px_blk (i' := 19) (L' := [some (.ref 28), some (.int a0), some (.int a1), some (.int a2), some (.int a3), none]) (S' := [.int (0 : Int32)]) (w' := px_w K s1 t) (q := []) 1 hM rfl trivial hK
    · rw [if_neg hc22] at hK
      exact px_blk (i' := 19) (L' := [some (.ref 28), some (.int a0), some (.int a1), some (.int a2), some (.int a3), none]) (S' := [.int ((50 : Int32) + ((s1.1 26) * (s1.1 27)))]) (w' := px_w K s1 t) (q := []) 8 hM rfl trivial hK
  · rw [if_neg hc21] at hK
    exact px_blk (i' := 19) (L' := [some (.ref 28), some (.int a0), some (.int a1), some (.int a2), some (.int a3), none]) (S' := [.int (125 : Int32)]) (w' := px_w K s1 t) (q := []) 2 hM rfl trivial hK
noncomputable def l_M_inodes_28_4 (K : px_K) (N : Nat) (n : Nat) (m1 : Int32) (m2 : Int32) (s : px_S) (t : px_W) : Option px_LO := match n with
  | 0 => none
  | n + 1 => (if (24 : Int32) ≤ m2 then (some (.inl (20, [m1], s, t))) else (px_bi (f_M_ofInode_28 K N m2 (0 : Int32) s t) (fun v5 s2 t3 => (px_let (m1 + (if v5 = 0 then (0 : Int32) else (1 : Int32))) (fun v7 => (l_M_inodes_28_4 K N n v7 (m2 + (1 : Int32)) s2 t3)))) (fun x6 s2 t3 => none)))
def a_l_M_inodes_28_4 (K : px_K) (z : px_LO) (o : Option Value ⊕ Nat) (w2 : px_W) : Prop := match z with
  | .inr (o', s', t') => o = o' ∧ w2 = px_w K s' t'
  | .inl (20, [y1], s', t') => px_E px_ET px_P 3 108 20 [none, some (.int y1), none] [] (px_w K s' t') o w2
  | _ => False
set_option maxRecDepth 100000 in
theorem e_l_M_inodes_28_4 (K : px_K) (N : Nat) : ∀ (n : Nat) (m1 : Int32) (m2 : Int32) (s : px_S) (t : px_W) (z : px_LO), l_M_inodes_28_4 K N n m1 m2 s t = some z → ∀ (o : Option Value ⊕ Nat) (w2 : px_W), a_l_M_inodes_28_4 K z o w2 → px_E px_ET px_P 3 108 4 [some (.ref 28), some (.int m1), some (.int m2)] [] (px_w K s t) o w2 := by
  have hM : px_P[108]? = some pm_M_inodes := rfl
  intro n
  induction n with
  | zero => intro m1 m2 s t z h; cases h
  | succ n ih =>
    intro m1 m2 s t z h o w2 ha
    unfold l_M_inodes_28_4 at h
    refine px_blkif (c := (24 : Int32) ≤ m2) (t := 20) (e := 7) (L' := [some (.ref 28), some (.int m1), some (.int m2)]) (S' := []) (w' := px_w K s t) (q := []) 3 hM rfl trivial (fun hc1 => ?_) (fun hc1 => ?_)
    · rw [if_pos hc1] at h
      cases h
      exact px_E_le (px_leC_L _ _ (by simp [px_leC, px_le1, Value.category])) ha
    · rw [if_neg hc1] at h
      refine px_blk (i' := 11) (L' := [some (.ref 28), some (.int m1), some (.int m2)]) (S' := [.int (0 : Int32), .int m2, .ref 28, .int m1]) (w' := px_w K s t) (q := []) 4 hM rfl trivial ?_
      rcases px_bi_some h with ⟨v5, s2, t3, hk4, h⟩ | ⟨x6, s2, t3, hk4, h⟩
      · refine px_E_call hM rfl rfl rfl rfl (px_E_mono (by decide) (e_M_ofInode_28 K N m2 (0 : Int32) s t _ hk4)) ?_
        have hK : px_E px_ET px_P 3 108 16 [some (.ref 28), some (.int m1), some (.int m2)] [.int (if v5 = 0 then (0 : Int32) else (1 : Int32)), .int m1] (px_w K s2 t3) o w2 := by
          refine px_blk (i' := 18) (L' := [some (.ref 28), some (.int (m1 + (if v5 = 0 then (0 : Int32) else (1 : Int32)))), some (.int m2)]) (S' := []) (w' := px_w K s2 t3) (q := []) 2 hM rfl trivial ?_
          obtain ⟨v7, hv8, h⟩ := px_let_some h
          rw [← hv8]
          refine px_blk (i' := 4) (L' := [some (.ref 28), some (.int v7), some (.int (m2 + (1 : Int32)))]) (S' := []) (w' := px_w K s2 t3) (q := []) 2 hM rfl trivial ?_
          exact ih v7 (m2 + (1 : Int32)) s2 t3 z h o w2 ha
        clear h
        refine px_blkif (c := v5 = 0) (t := 15) (e := 13) (L' := [some (.ref 28), some (.int m1), some (.int m2)]) (S' := [.int m1]) (w' := px_w K s2 t3) (q := []) 1 hM rfl trivial (fun hc9 => ?_) (fun hc9 => ?_)
        · rw [if_pos hc9] at hK
          exact px_blk (i' := 16) (L' := [some (.ref 28), some (.int m1), some (.int m2)]) (S' := [.int (0 : Int32), .int m1]) (w' := px_w K s2 t3) (q := []) 1 hM rfl trivial hK
        · rw [if_neg hc9] at hK
          exact px_blk (i' := 16) (L' := [some (.ref 28), some (.int m1), some (.int m2)]) (S' := [.int (1 : Int32), .int m1]) (w' := px_w K s2 t3) (q := []) 2 hM rfl trivial hK
      · cases h
noncomputable def f_M_inodes_28 (K : px_K) (N : Nat) (s : px_S) (t : px_W) : Option px_Res :=
  (px_lp (l_M_inodes_28_4 K N N (0 : Int32) (0 : Int32) s t) (fun i1 vs2 s3 t4 => (if i1 = 20 then (px_v1 vs2 (fun y7 => (some (.inl (some (.int y7)), s3, t4)))) else none)) (fun z6 => some z6))
set_option maxRecDepth 100000 in
theorem e_M_inodes_28 (K : px_K) (N : Nat) (s : px_S) (t : px_W) (r : px_Res) (h : f_M_inodes_28 K N s t = some r) : px_E px_ET px_P 3 108 0 (px_ent 3 [.ref 28]) [] (px_w K s t) r.1 (px_w K r.2.1 r.2.2) := by
  have hM : px_P[108]? = some pm_M_inodes := rfl
  unfold f_M_inodes_28 at h
  refine px_blk (i' := 4) (L' := [some (.ref 28), some (.int (0 : Int32)), some (.int (0 : Int32))]) (S' := []) (w' := px_w K s t) (q := []) 4 hM rfl trivial ?_
  rcases px_lp_some h with ⟨i1, vs2, s3, t4, hl5, h⟩ | ⟨z6, hl5, h⟩
  · by_cases hi8 : i1 = 20
    · subst hi8
      rw [if_pos rfl] at h
      have h9 := px_v1_some h
      clear h
      obtain ⟨y7, rfl, h⟩ := h9
      refine e_l_M_inodes_28_4 K N N (0 : Int32) (0 : Int32) s t _ hl5 _ _ ?_
      show px_E px_ET px_P 3 108 20 [none, some (.int y7), none] [] (px_w K s3 t4) _ _
      refine px_blk (i' := 21) (L' := [none, some (.int y7), none]) (S' := [.int y7]) (w' := px_w K s3 t4) (q := []) 1 hM rfl trivial ?_
      cases h
      exact px_E_ret hM rfl rfl rfl trivial
    · rw [if_neg hi8] at h
      cases h
  · cases h
    exact e_l_M_inodes_28_4 K N N (0 : Int32) (0 : Int32) s t _ hl5 _ _ ⟨rfl, rfl⟩
noncomputable def f_M_count_28 (K : px_K) (N : Nat) (a0 : Int32) (s : px_S) (t : px_W) : Option px_Res :=
  (px_let (sR s 25 (0 : Int32)) (fun s1 => (px_let (if (s1.1 29) = 0 then (0 : Int32) else (if (s1.1 31) = 0 then (0 : Int32) else (1 : Int32))) (fun v3 => (if a0.toInt = 0 then (some (.inl (some (.int (if (s1.1 29) = 0 then (0 : Int32) else (1 : Int32)))), s1, t)) else (if a0.toInt = 1 then (some (.inl (some (.int (if v3 = 0 then (0 : Int32) else (1 : Int32)))), s1, t)) else (if a0.toInt = 2 then (px_bi (f_M_landed_28 K N s1 t) (fun v13 s10 t11 => (some (.inl (some (.int v13)), s10, t11))) (fun x14 s10 t11 => none)) else (if a0.toInt = 3 then (some (.inl (some (.int (if v3 = 0 then (-1 : Int32) else (s1.1 32)))), s1, t)) else (if a0.toInt = 4 then (if v3 = 0 then (some (.inl (some (.int (-1 : Int32))), s1, t)) else (px_bi (f_M_landed_28 K N s1 t) (fun v22 s19 t20 => (some (.inl (some (.int (((s1.1 32) - (1 : Int32)) - v22))), s19, t20))) (fun x23 s19 t20 => none))) else (if a0.toInt = 5 then (if v3 = 0 then (some (.inl (some (.int (-1 : Int32))), s1, t)) else (px_bi (f_M_dirtyOf_28 K N (s1.1 32) s1 t) (fun v29 s26 t27 => (some (.inl (some (.int v29)), s26, t27))) (fun x30 s26 t27 => none))) else (if a0.toInt = 6 then (some (.inl (some (.int (if (s1.1 29) = 0 then (-1 : Int32) else (s1.1 36)))), s1, t)) else (if a0.toInt = 7 then (if (s1.1 29) = 0 then (some (.inl (some (.int (-1 : Int32))), s1, t)) else (px_bi (f_M_changes_28 K N s1 t) (fun v38 s35 t36 => (some (.inl (some (.int v38)), s35, t36))) (fun x39 s35 t36 => none))) else (if a0.toInt = 8 then (if (s1.1 29) = 0 then (some (.inl (some (.int (-1 : Int32))), s1, t)) else (px_bi (f_M_keeps_28 K N s1 t) (fun v45 s42 t43 => (some (.inl (some (.int v45)), s42, t43))) (fun x46 s42 t43 => none))) else (if a0.toInt = 9 then (some (.inl (some (.int (if (s1.1 29) = 0 then (-1 : Int32) else ((29 : Int32) - (s1.1 37))))), s1, t)) else (if a0.toInt = 10 then (if (s1.1 29) = 0 then (some (.inl (some (.int (-1 : Int32))), s1, t)) else (px_bi (f_M_inodes_28 K N s1 t) (fun v54 s51 t52 => (some (.inl (some (.int v54)), s51, t52))) (fun x55 s51 t52 => none))) else (if a0.toInt = 11 then (if (s1.1 29) = 0 then (some (.inl (some (.int (-1 : Int32))), s1, t)) else (px_bi (f_M_left_28 K N s1 t) (fun v61 s58 t59 => (some (.inl (some (.int ((64 : Int32) - v61))), s58, t59))) (fun x62 s58 t59 => none))) else (if a0.toInt = 12 then (px_gd (vp_in (a0 - (12 : Int32)) (K.2.2 30)) (some (.inl (some (.int ((s1.2.2.1 30) (a0 - (12 : Int32)).toNatClampNeg))), s1, t))) else (if a0.toInt = 13 then (px_gd (vp_in (a0 - (12 : Int32)) (K.2.2 30)) (some (.inl (some (.int ((s1.2.2.1 30) (a0 - (12 : Int32)).toNatClampNeg))), s1, t))) else (if a0.toInt = 14 then (px_gd (vp_in (a0 - (14 : Int32)) (K.2.2 33)) (some (.inl (some (.int ((s1.2.2.1 33) (a0 - (14 : Int32)).toNatClampNeg))), s1, t))) else (if a0.toInt = 15 then (px_gd (vp_in (a0 - (14 : Int32)) (K.2.2 33)) (some (.inl (some (.int ((s1.2.2.1 33) (a0 - (14 : Int32)).toNatClampNeg))), s1, t))) else (if a0.toInt = 16 then (px_gd (vp_in (a0 - (16 : Int32)) (K.2.2 34)) (some (.inl (some (.int ((s1.2.2.1 34) (a0 - (16 : Int32)).toNatClampNeg))), s1, t))) else (if a0.toInt = 17 then (px_gd (vp_in (a0 - (16 : Int32)) (K.2.2 34)) (some (.inl (some (.int ((s1.2.2.1 34) (a0 - (16 : Int32)).toNatClampNeg))), s1, t))) else (some (.inl (some (.int (-1 : Int32))), s1, t))))))))))))))))))))))))
set_option maxRecDepth 100000 in
theorem e_M_count_28 (K : px_K) (N : Nat) (a0 : Int32) (s : px_S) (t : px_W) (r : px_Res) (h : f_M_count_28 K N a0 s t = some r) : px_E px_ET px_P 4 107 0 (px_ent 3 [.ref 28, .int a0]) [] (px_w K s t) r.1 (px_w K r.2.1 r.2.2) := by
  have hM : px_P[107]? = some pm_M_count := rfl
  unfold f_M_count_28 at h
  refine px_blk (i' := 3) (L' := [some (.ref 28), some (.int a0), none]) (S' := []) (w' := px_w K (sR s 25 (0 : Int32)) t) (q := []) 3 hM rfl trivial ?_
  obtain ⟨s1, hs2, h⟩ := px_let_some h
  rw [← hs2]
  refine px_blk (i' := 5) (L' := [some (.ref 28), some (.int a0), none]) (S' := [.int (s1.1 29)]) (w' := px_w K s1 t) (q := []) 2 hM rfl trivial ?_
  have hK : px_E px_ET px_P 4 107 12 [some (.ref 28), some (.int a0), none] [.int (if (s1.1 29) = 0 then (0 : Int32) else (if (s1.1 31) = 0 then (0 : Int32) else (1 : Int32)))] (px_w K s1 t) r.1 (px_w K r.2.1 r.2.2) := by
    refine px_blk (i' := 13) (L' := [some (.ref 28), some (.int a0), some (.int (if (s1.1 29) = 0 then (0 : Int32) else (if (s1.1 31) = 0 then (0 : Int32) else (1 : Int32))))]) (S' := []) (w' := px_w K s1 t) (q := []) 1 hM rfl trivial ?_
    obtain ⟨v3, hv4, h⟩ := px_let_some h
    rw [← hv4]
    refine px_blk (i' := 14) (L' := [some (.ref 28), some (.int a0), some (.int v3)]) (S' := [.int a0]) (w' := px_w K s1 t) (q := []) 1 hM rfl trivial ?_
    by_cases hs5 : a0.toInt = 0
    · rw [if_pos hs5] at h
      refine px_E_step hM rfl rfl (px_tb_at hs5 rfl) trivial ?_
      refine px_blk (i' := 17) (L' := [some (.ref 28), some (.int a0), some (.int v3)]) (S' := [.int (s1.1 29)]) (w' := px_w K s1 t) (q := []) 2 hM rfl trivial ?_
      have hK : px_E px_ET px_P 4 107 21 [some (.ref 28), some (.int a0), some (.int v3)] [.int (if (s1.1 29) = 0 then (0 : Int32) else (1 : Int32))] (px_w K s1 t) r.1 (px_w K r.2.1 r.2.2) := by
        cases h
        exact px_E_ret hM rfl rfl rfl trivial
      clear h
      refine px_blkif (c := (s1.1 29) = 0) (t := 20) (e := 18) (L' := [some (.ref 28), some (.int a0), some (.int v3)]) (S' := []) (w' := px_w K s1 t) (q := []) 1 hM rfl trivial (fun hc6 => ?_) (fun hc6 => ?_)
      · rw [if_pos hc6] at hK
        exact px_blk (i' := 21) (L' := [some (.ref 28), some (.int a0), some (.int v3)]) (S' := [.int (0 : Int32)]) (w' := px_w K s1 t) (q := []) 1 hM rfl trivial hK
      · rw [if_neg hc6] at hK
        exact px_blk (i' := 21) (L' := [some (.ref 28), some (.int a0), some (.int v3)]) (S' := [.int (1 : Int32)]) (w' := px_w K s1 t) (q := []) 2 hM rfl trivial hK
    · rw [if_neg hs5] at h
      by_cases hs7 : a0.toInt = 1
      · rw [if_pos hs7] at h
        refine px_E_step hM rfl rfl (px_tb_at hs7 rfl) trivial ?_
        refine px_blk (i' := 23) (L' := [some (.ref 28), some (.int a0), some (.int v3)]) (S' := [.int v3]) (w' := px_w K s1 t) (q := []) 1 hM rfl trivial ?_
        have hK : px_E px_ET px_P 4 107 27 [some (.ref 28), some (.int a0), some (.int v3)] [.int (if v3 = 0 then (0 : Int32) else (1 : Int32))] (px_w K s1 t) r.1 (px_w K r.2.1 r.2.2) := by
          cases h
          exact px_E_ret hM rfl rfl rfl trivial
        clear h
        refine px_blkif (c := v3 = 0) (t := 26) (e := 24) (L' := [some (.ref 28), some (.int a0), some (.int v3)]) (S' := []) (w' := px_w K s1 t) (q := []) 1 hM rfl trivial (fun hc8 => ?_) (fun hc8 => ?_)
        · rw [if_pos hc8] at hK
          exact px_blk (i' := 27) (L' := [some (.ref 28), some (.int a0), some (.int v3)]) (S' := [.int (0 : Int32)]) (w' := px_w K s1 t) (q := []) 1 hM rfl trivial hK
        · rw [if_neg hc8] at hK
          exact px_blk (i' := 27) (L' := [some (.ref 28), some (.int a0), some (.int v3)]) (S' := [.int (1 : Int32)]) (w' := px_w K s1 t) (q := []) 2 hM rfl trivial hK
      · rw [if_neg hs7] at h
        by_cases hs9 : a0.toInt = 2
        · rw [if_pos hs9] at h
          refine px_E_step hM rfl rfl (px_tb_at hs9 rfl) trivial ?_
          refine px_blk (i' := 29) (L' := [some (.ref 28), some (.int a0), some (.int v3)]) (S' := [.ref 28]) (w' := px_w K s1 t) (q := []) 1 hM rfl trivial ?_
          rcases px_bi_some h with ⟨v13, s10, t11, hk12, h⟩ | ⟨x14, s10, t11, hk12, h⟩
          · refine px_E_call hM rfl rfl rfl rfl (px_E_mono (by decide) (e_M_landed_28 K N s1 t _ hk12)) ?_
            cases h
            exact px_E_ret hM rfl rfl rfl trivial
          · cases h
        · rw [if_neg hs9] at h
          by_cases hs15 : a0.toInt = 3
          · rw [if_pos hs15] at h
            refine px_E_step hM rfl rfl (px_tb_at hs15 rfl) trivial ?_
            refine px_blk (i' := 32) (L' := [some (.ref 28), some (.int a0), some (.int v3)]) (S' := [.int v3]) (w' := px_w K s1 t) (q := []) 1 hM rfl trivial ?_
            have hK : px_E px_ET px_P 4 107 37 [some (.ref 28), some (.int a0), some (.int v3)] [.int (if v3 = 0 then (-1 : Int32) else (s1.1 32))] (px_w K s1 t) r.1 (px_w K r.2.1 r.2.2) := by
              cases h
              exact px_E_ret hM rfl rfl rfl trivial
            clear h
            refine px_blkif (c := v3 = 0) (t := 36) (e := 33) (L' := [some (.ref 28), some (.int a0), some (.int v3)]) (S' := []) (w' := px_w K s1 t) (q := []) 1 hM rfl trivial (fun hc16 => ?_) (fun hc16 => ?_)
            · rw [if_pos hc16] at hK
              exact px_blk (i' := 37) (L' := [some (.ref 28), some (.int a0), some (.int v3)]) (S' := [.int (-1 : Int32)]) (w' := px_w K s1 t) (q := []) 1 hM rfl trivial hK
            · rw [if_neg hc16] at hK
              exact px_blk (i' := 37) (L' := [some (.ref 28), some (.int a0), some (.int v3)]) (S' := [.int (s1.1 32)]) (w' := px_w K s1 t) (q := []) 3 hM rfl trivial hK
          · rw [if_neg hs15] at h
            by_cases hs17 : a0.toInt = 4
            · rw [if_pos hs17] at h
              refine px_E_step hM rfl rfl (px_tb_at hs17 rfl) trivial ?_
              refine px_blkif (c := v3 = 0) (t := 48) (e := 40) (L' := [some (.ref 28), some (.int a0), some (.int v3)]) (S' := []) (w' := px_w K s1 t) (q := []) 2 hM rfl trivial (fun hc18 => ?_) (fun hc18 => ?_)
              · rw [if_pos hc18] at h
                refine px_blk (i' := 49) (L' := [some (.ref 28), some (.int a0), some (.int v3)]) (S' := [.int (-1 : Int32)]) (w' := px_w K s1 t) (q := []) 1 hM rfl trivial ?_
                cases h
                exact px_E_ret hM rfl rfl rfl trivial
              · rw [if_neg hc18] at h
                refine px_blk (i' := 45) (L' := [some (.ref 28), some (.int a0), some (.int v3)]) (S' := [.ref 28, .int ((s1.1 32) - (1 : Int32))]) (w' := px_w K s1 t) (q := []) 5 hM rfl trivial ?_
                rcases px_bi_some h with ⟨v22, s19, t20, hk21, h⟩ | ⟨x23, s19, t20, hk21, h⟩
                · refine px_E_call hM rfl rfl rfl rfl (px_E_mono (by decide) (e_M_landed_28 K N s1 t _ hk21)) ?_
                  refine px_blk (i' := 49) (L' := [some (.ref 28), some (.int a0), some (.int v3)]) (S' := [.int (((s1.1 32) - (1 : Int32)) - v22)]) (w' := px_w K s19 t20) (q := []) 2 hM rfl trivial ?_
                  cases h
                  exact px_E_ret hM rfl rfl rfl trivial
                · cases h
            · rw [if_neg hs17] at h
              by_cases hs24 : a0.toInt = 5
              · rw [if_pos hs24] at h
                refine px_E_step hM rfl rfl (px_tb_at hs24 rfl) trivial ?_
                refine px_blkif (c := v3 = 0) (t := 57) (e := 52) (L' := [some (.ref 28), some (.int a0), some (.int v3)]) (S' := []) (w' := px_w K s1 t) (q := []) 2 hM rfl trivial (fun hc25 => ?_) (fun hc25 => ?_)
                · rw [if_pos hc25] at h
                  refine px_blk (i' := 58) (L' := [some (.ref 28), some (.int a0), some (.int v3)]) (S' := [.int (-1 : Int32)]) (w' := px_w K s1 t) (q := []) 1 hM rfl trivial ?_
                  cases h
                  exact px_E_ret hM rfl rfl rfl trivial
                · rw [if_neg hc25] at h
                  refine px_blk (i' := 55) (L' := [some (.ref 28), some (.int a0), some (.int v3)]) (S' := [.int (s1.1 32), .ref 28]) (w' := px_w K s1 t) (q := []) 3 hM rfl trivial ?_
                  rcases px_bi_some h with ⟨v29, s26, t27, hk28, h⟩ | ⟨x30, s26, t27, hk28, h⟩
                  · refine px_E_call hM rfl rfl rfl rfl (px_E_mono (by decide) (e_M_dirtyOf_28 K N (s1.1 32) s1 t _ hk28)) ?_
                    refine px_blk (i' := 58) (L' := [some (.ref 28), some (.int a0), some (.int v3)]) (S' := [.int v29]) (w' := px_w K s26 t27) (q := []) 1 hM rfl trivial ?_
                    cases h
                    exact px_E_ret hM rfl rfl rfl trivial
                  · cases h
              · rw [if_neg hs24] at h
                by_cases hs31 : a0.toInt = 6
                · rw [if_pos hs31] at h
                  refine px_E_step hM rfl rfl (px_tb_at hs31 rfl) trivial ?_
                  refine px_blk (i' := 61) (L' := [some (.ref 28), some (.int a0), some (.int v3)]) (S' := [.int (s1.1 29)]) (w' := px_w K s1 t) (q := []) 2 hM rfl trivial ?_
                  have hK : px_E px_ET px_P 4 107 66 [some (.ref 28), some (.int a0), some (.int v3)] [.int (if (s1.1 29) = 0 then (-1 : Int32) else (s1.1 36))] (px_w K s1 t) r.1 (px_w K r.2.1 r.2.2) := by
                    cases h
                    exact px_E_ret hM rfl rfl rfl trivial
                  clear h
                  refine px_blkif (c := (s1.1 29) = 0) (t := 65) (e := 62) (L' := [some (.ref 28), some (.int a0), some (.int v3)]) (S' := []) (w' := px_w K s1 t) (q := []) 1 hM rfl trivial (fun hc32 => ?_) (fun hc32 => ?_)
                  · rw [if_pos hc32] at hK
                    exact px_blk (i' := 66) (L' := [some (.ref 28), some (.int a0), some (.int v3)]) (S' := [.int (-1 : Int32)]) (w' := px_w K s1 t) (q := []) 1 hM rfl trivial hK
                  · rw [if_neg hc32] at hK
                    exact px_blk (i' := 66) (L' := [some (.ref 28), some (.int a0), some (.int v3)]) (S' := [.int (s1.1 36)]) (w' := px_w K s1 t) (q := []) 3 hM rfl trivial hK
                · rw [if_neg hs31] at h
                  by_cases hs33 : a0.toInt = 7
                  · rw [if_pos hs33] at h
                    refine px_E_step hM rfl rfl (px_tb_at hs33 rfl) trivial ?_
                    refine px_blkif (c := (s1.1 29) = 0) (t := 73) (e := 70) (L' := [some (.ref 28), some (.int a0), some (.int v3)]) (S' := []) (w' := px_w K s1 t) (q := []) 3 hM rfl trivial (fun hc34 => ?_) (fun hc34 => ?_)
                    · rw [if_pos hc34] at h
                      refine px_blk (i' := 74) (L' := [some (.ref 28), some (.int a0), some (.int v3)]) (S' := [.int (-1 : Int32)]) (w' := px_w K s1 t) (q := []) 1 hM rfl trivial ?_
                      cases h
                      exact px_E_ret hM rfl rfl rfl trivial
                    · rw [if_neg hc34] at h
                      refine px_blk (i' := 71) (L' := [some (.ref 28), some (.int a0), some (.int v3)]) (S' := [.ref 28]) (w' := px_w K s1 t) (q := []) 1 hM rfl trivial ?_
                      rcases px_bi_some h with ⟨v38, s35, t36, hk37, h⟩ | ⟨x39, s35, t36, hk37, h⟩
                      · refine px_E_call hM rfl rfl rfl rfl (px_E_mono (by decide) (e_M_changes_28 K N s1 t _ hk37)) ?_
                        refine px_blk (i' := 74) (L' := [some (.ref 28), some (.int a0), some (.int v3)]) (S' := [.int v38]) (w' := px_w K s35 t36) (q := []) 1 hM rfl trivial ?_
                        cases h
                        exact px_E_ret hM rfl rfl rfl trivial
                      · cases h
                  · rw [if_neg hs33] at h
                    by_cases hs40 : a0.toInt = 8
                    · rw [if_pos hs40] at h
                      refine px_E_step hM rfl rfl (px_tb_at hs40 rfl) trivial ?_
                      refine px_blkif (c := (s1.1 29) = 0) (t := 81) (e := 78) (L' := [some (.ref 28), some (.int a0), some (.int v3)]) (S' := []) (w' := px_w K s1 t) (q := []) 3 hM rfl trivial (fun hc41 => ?_) (fun hc41 => ?_)
                      · rw [if_pos hc41] at h
                        refine px_blk (i' := 82) (L' := [some (.ref 28), some (.int a0), some (.int v3)]) (S' := [.int (-1 : Int32)]) (w' := px_w K s1 t) (q := []) 1 hM rfl trivial ?_
                        cases h
                        exact px_E_ret hM rfl rfl rfl trivial
                      · rw [if_neg hc41] at h
                        refine px_blk (i' := 79) (L' := [some (.ref 28), some (.int a0), some (.int v3)]) (S' := [.ref 28]) (w' := px_w K s1 t) (q := []) 1 hM rfl trivial ?_
                        rcases px_bi_some h with ⟨v45, s42, t43, hk44, h⟩ | ⟨x46, s42, t43, hk44, h⟩
                        · refine px_E_call hM rfl rfl rfl rfl (px_E_mono (by decide) (e_M_keeps_28 K N s1 t _ hk44)) ?_
                          refine px_blk (i' := 82) (L' := [some (.ref 28), some (.int a0), some (.int v3)]) (S' := [.int v45]) (w' := px_w K s42 t43) (q := []) 1 hM rfl trivial ?_
                          cases h
                          exact px_E_ret hM rfl rfl rfl trivial
                        · cases h
                    · rw [if_neg hs40] at h
                      by_cases hs47 : a0.toInt = 9
                      · rw [if_pos hs47] at h
                        refine px_E_step hM rfl rfl (px_tb_at hs47 rfl) trivial ?_
                        refine px_blk (i' := 85) (L' := [some (.ref 28), some (.int a0), some (.int v3)]) (S' := [.int (s1.1 29)]) (w' := px_w K s1 t) (q := []) 2 hM rfl trivial ?_
                        have hK : px_E px_ET px_P 4 107 92 [some (.ref 28), some (.int a0), some (.int v3)] [.int (if (s1.1 29) = 0 then (-1 : Int32) else ((29 : Int32) - (s1.1 37)))] (px_w K s1 t) r.1 (px_w K r.2.1 r.2.2) := by
                          cases h
                          exact px_E_ret hM rfl rfl rfl trivial
                        clear h
                        refine px_blkif (c := (s1.1 29) = 0) (t := 91) (e := 86) (L' := [some (.ref 28), some (.int a0), some (.int v3)]) (S' := []) (w' := px_w K s1 t) (q := []) 1 hM rfl trivial (fun hc48 => ?_) (fun hc48 => ?_)
                        · rw [if_pos hc48] at hK
                          exact px_blk (i' := 92) (L' := [some (.ref 28), some (.int a0), some (.int v3)]) (S' := [.int (-1 : Int32)]) (w' := px_w K s1 t) (q := []) 1 hM rfl trivial hK
                        · rw [if_neg hc48] at hK
                          exact px_blk (i' := 92) (L' := [some (.ref 28), some (.int a0), some (.int v3)]) (S' := [.int ((29 : Int32) - (s1.1 37))]) (w' := px_w K s1 t) (q := []) 5 hM rfl trivial hK
                      · rw [if_neg hs47] at h
                        by_cases hs49 : a0.toInt = 10
                        · rw [if_pos hs49] at h
                          refine px_E_step hM rfl rfl (px_tb_at hs49 rfl) trivial ?_
                          refine px_blkif (c := (s1.1 29) = 0) (t := 99) (e := 96) (L' := [some (.ref 28), some (.int a0), some (.int v3)]) (S' := []) (w' := px_w K s1 t) (q := []) 3 hM rfl trivial (fun hc50 => ?_) (fun hc50 => ?_)
                          · rw [if_pos hc50] at h
                            refine px_blk (i' := 100) (L' := [some (.ref 28), some (.int a0), some (.int v3)]) (S' := [.int (-1 : Int32)]) (w' := px_w K s1 t) (q := []) 1 hM rfl trivial ?_
                            cases h
                            exact px_E_ret hM rfl rfl rfl trivial
                          · rw [if_neg hc50] at h
                            refine px_blk (i' := 97) (L' := [some (.ref 28), some (.int a0), some (.int v3)]) (S' := [.ref 28]) (w' := px_w K s1 t) (q := []) 1 hM rfl trivial ?_
                            rcases px_bi_some h with ⟨v54, s51, t52, hk53, h⟩ | ⟨x55, s51, t52, hk53, h⟩
                            · refine px_E_call hM rfl rfl rfl rfl (px_E_mono (by decide) (e_M_inodes_28 K N s1 t _ hk53)) ?_
                              refine px_blk (i' := 100) (L' := [some (.ref 28), some (.int a0), some (.int v3)]) (S' := [.int v54]) (w' := px_w K s51 t52) (q := []) 1 hM rfl trivial ?_
                              cases h
                              exact px_E_ret hM rfl rfl rfl trivial
                            · cases h
                        · rw [if_neg hs49] at h
                          by_cases hs56 : a0.toInt = 11
                          · rw [if_pos hs56] at h
                            refine px_E_step hM rfl rfl (px_tb_at hs56 rfl) trivial ?_
                            refine px_blkif (c := (s1.1 29) = 0) (t := 109) (e := 104) (L' := [some (.ref 28), some (.int a0), some (.int v3)]) (S' := []) (w' := px_w K s1 t) (q := []) 3 hM rfl trivial (fun hc57 => ?_) (fun hc57 => ?_)
                            · rw [if_pos hc57] at h
                              refine px_blk (i' := 110) (L' := [some (.ref 28), some (.int a0), some (.int v3)]) (S' := [.int (-1 : Int32)]) (w' := px_w K s1 t) (q := []) 1 hM rfl trivial ?_
                              cases h
                              exact px_E_ret hM rfl rfl rfl trivial
                            · rw [if_neg hc57] at h
                              refine px_blk (i' := 106) (L' := [some (.ref 28), some (.int a0), some (.int v3)]) (S' := [.ref 28, .int (64 : Int32)]) (w' := px_w K s1 t) (q := []) 2 hM rfl trivial ?_
                              rcases px_bi_some h with ⟨v61, s58, t59, hk60, h⟩ | ⟨x62, s58, t59, hk60, h⟩
                              · refine px_E_call hM rfl rfl rfl rfl (px_E_mono (by decide) (e_M_left_28 K N s1 t _ hk60)) ?_
                                refine px_blk (i' := 110) (L' := [some (.ref 28), some (.int a0), some (.int v3)]) (S' := [.int ((64 : Int32) - v61)]) (w' := px_w K s58 t59) (q := []) 2 hM rfl trivial ?_
                                cases h
                                exact px_E_ret hM rfl rfl rfl trivial
                              · cases h
                          · rw [if_neg hs56] at h
                            by_cases hs63 : a0.toInt = 12
                            · rw [if_pos hs63] at h
                              refine px_E_step hM rfl rfl (px_tb_at hs63 rfl) trivial ?_
                              obtain ⟨hq64, h⟩ := px_gd_some h
                              refine px_blk (i' := 117) (L' := [some (.ref 28), some (.int a0), some (.int v3)]) (S' := [.int ((s1.2.2.1 30) (a0 - (12 : Int32)).toNatClampNeg)]) (w' := px_w K s1 t) (q := [vp_in (a0 - (12 : Int32)) (K.2.2 30)]) 6 hM rfl (show vp_in (a0 - (12 : Int32)) (K.2.2 30) from hq64) ?_
                              cases h
                              exact px_E_ret hM rfl rfl rfl trivial
                            · rw [if_neg hs63] at h
                              by_cases hs65 : a0.toInt = 13
                              · rw [if_pos hs65] at h
                                refine px_E_step hM rfl rfl (px_tb_at hs65 rfl) trivial ?_
                                obtain ⟨hq66, h⟩ := px_gd_some h
                                refine px_blk (i' := 117) (L' := [some (.ref 28), some (.int a0), some (.int v3)]) (S' := [.int ((s1.2.2.1 30) (a0 - (12 : Int32)).toNatClampNeg)]) (w' := px_w K s1 t) (q := [vp_in (a0 - (12 : Int32)) (K.2.2 30)]) 6 hM rfl (show vp_in (a0 - (12 : Int32)) (K.2.2 30) from hq66) ?_
                                cases h
                                exact px_E_ret hM rfl rfl rfl trivial
                              · rw [if_neg hs65] at h
                                by_cases hs67 : a0.toInt = 14
                                · rw [if_pos hs67] at h
                                  refine px_E_step hM rfl rfl (px_tb_at hs67 rfl) trivial ?_
                                  obtain ⟨hq68, h⟩ := px_gd_some h
                                  refine px_blk (i' := 124) (L' := [some (.ref 28), some (.int a0), some (.int v3)]) (S' := [.int ((s1.2.2.1 33) (a0 - (14 : Int32)).toNatClampNeg)]) (w' := px_w K s1 t) (q := [vp_in (a0 - (14 : Int32)) (K.2.2 33)]) 6 hM rfl (show vp_in (a0 - (14 : Int32)) (K.2.2 33) from hq68) ?_
                                  cases h
                                  exact px_E_ret hM rfl rfl rfl trivial
                                · rw [if_neg hs67] at h
                                  by_cases hs69 : a0.toInt = 15
                                  · rw [if_pos hs69] at h
                                    refine px_E_step hM rfl rfl (px_tb_at hs69 rfl) trivial ?_
                                    obtain ⟨hq70, h⟩ := px_gd_some h
                                    refine px_blk (i' := 124) (L' := [some (.ref 28), some (.int a0), some (.int v3)]) (S' := [.int ((s1.2.2.1 33) (a0 - (14 : Int32)).toNatClampNeg)]) (w' := px_w K s1 t) (q := [vp_in (a0 - (14 : Int32)) (K.2.2 33)]) 6 hM rfl (show vp_in (a0 - (14 : Int32)) (K.2.2 33) from hq70) ?_
                                    cases h
                                    exact px_E_ret hM rfl rfl rfl trivial
                                  · rw [if_neg hs69] at h
                                    by_cases hs71 : a0.toInt = 16
                                    · rw [if_pos hs71] at h
                                      refine px_E_step hM rfl rfl (px_tb_at hs71 rfl) trivial ?_
                                      obtain ⟨hq72, h⟩ := px_gd_some h
                                      refine px_blk (i' := 131) (L' := [some (.ref 28), some (.int a0), some (.int v3)]) (S' := [.int ((s1.2.2.1 34) (a0 - (16 : Int32)).toNatClampNeg)]) (w' := px_w K s1 t) (q := [vp_in (a0 - (16 : Int32)) (K.2.2 34)]) 6 hM rfl (show vp_in (a0 - (16 : Int32)) (K.2.2 34) from hq72) ?_
                                      cases h
                                      exact px_E_ret hM rfl rfl rfl trivial
                                    · rw [if_neg hs71] at h
                                      by_cases hs73 : a0.toInt = 17
                                      · rw [if_pos hs73] at h
                                        refine px_E_step hM rfl rfl (px_tb_at hs73 rfl) trivial ?_
                                        obtain ⟨hq74, h⟩ := px_gd_some h
                                        refine px_blk (i' := 131) (L' := [some (.ref 28), some (.int a0), some (.int v3)]) (S' := [.int ((s1.2.2.1 34) (a0 - (16 : Int32)).toNatClampNeg)]) (w' := px_w K s1 t) (q := [vp_in (a0 - (16 : Int32)) (K.2.2 34)]) 6 hM rfl (show vp_in (a0 - (16 : Int32)) (K.2.2 34) from hq74) ?_
                                        cases h
                                        exact px_E_ret hM rfl rfl rfl trivial
                                      · rw [if_neg hs73] at h
                                        refine px_E_step hM rfl rfl (px_tb_df (by omega) rfl) trivial ?_
                                        refine px_blk (i' := 133) (L' := [some (.ref 28), some (.int a0), some (.int v3)]) (S' := [.int (-1 : Int32)]) (w' := px_w K s1 t) (q := []) 1 hM rfl trivial ?_
                                        cases h
                                        exact px_E_ret hM rfl rfl rfl trivial
  clear h
  refine px_blkif (c := (s1.1 29) = 0) (t := 11) (e := 6) (L' := [some (.ref 28), some (.int a0), none]) (S' := []) (w' := px_w K s1 t) (q := []) 1 hM rfl trivial (fun hc75 => ?_) (fun hc75 => ?_)
  · rw [if_pos hc75] at hK
    exact px_blk (i' := 12) (L' := [some (.ref 28), some (.int a0), none]) (S' := [.int (0 : Int32)]) (w' := px_w K s1 t) (q := []) 1 hM rfl trivial hK
  · rw [if_neg hc75] at hK
    refine px_blkif (c := (s1.1 31) = 0) (t := 11) (e := 9) (L' := [some (.ref 28), some (.int a0), none]) (S' := []) (w' := px_w K s1 t) (q := []) 3 hM rfl trivial (fun hc76 => ?_) (fun hc76 => ?_)
    · rw [if_pos hc76] at hK
      exact px_blk (i' := 12) (L' := [some (.ref 28), some (.int a0), none]) (S' := [.int (0 : Int32)]) (w' := px_w K s1 t) (q := []) 1 hM rfl trivial hK
    · rw [if_neg hc76] at hK
      exact px_blk (i' := 12) (L' := [some (.ref 28), some (.int a0), none]) (S' := [.int (1 : Int32)]) (w' := px_w K s1 t) (q := []) 2 hM rfl trivial hK
