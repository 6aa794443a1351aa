/-! THE METHODS AS FUNCTIONS (by program). -/
noncomputable def l_M_take_28_2 (K : px_K) (N : Nat) (n : Nat) (m1 : Int32) (s : px_S) (t : px_W) : Option px_LO := match n with
  | 0 => none
  | n + 1 => (px_bi (f_M_isUsed_28 K N m1 s t) (fun v4 s1 t2 => (if v4 = 0 then (some (.inl (8, [m1], s1, t2))) else (l_M_take_28_2 K N n (m1 + (1 : Int32)) s1 t2))) (fun x5 s1 t2 => none))
def a_l_M_take_28_2 (K : px_K) (z : px_LO) (o : Option Value ⊕ Nat) (w2 : px_W) : Prop := match z with
  | .inr (o', s', t') => o = o' ∧ w2 = px_w K s' t'
  | .inl (8, [y1], s', t') => px_E px_ET px_P 3 56 8 [some (.ref 28), some (.int y1), none] [] (px_w K s' t') o w2
  | _ => False
noncomputable def l_M_take_28_34 (K : px_K) (N : Nat) (n : Nat) (u1 : Int32) (m2 : Int32) (s : px_S) (t : px_W) : Option px_LO := match n with
  | 0 => none
  | n + 1 => (if (16 : Int32) ≤ m2 then (some (.inl (44, [], s, t))) else (px_bv (f_M_tell_28 K N u1 m2 (0 : Int32) s t) (fun s2 t3 => (l_M_take_28_34 K N n u1 (m2 + (1 : Int32)) s2 t3)) (fun x6 s2 t3 => none)))
def a_l_M_take_28_34 (K : px_K) (u1 : Int32) (z : px_LO) (o : Option Value ⊕ Nat) (w2 : px_W) : Prop := match z with
  | .inr (o', s', t') => o = o' ∧ w2 = px_w K s' t'
  | .inl (44, [], s', t') => px_E px_ET px_P 3 56 44 [none, some (.int u1), none] [] (px_w K s' t') o w2
  | _ => False
set_option maxRecDepth 100000 in
theorem e_l_M_take_28_2 (K : px_K) (N : Nat) : ∀ (n : Nat) (m1 : Int32) (s : px_S) (t : px_W) (z : px_LO), l_M_take_28_2 K N n m1 s t = some z → ∀ (o : Option Value ⊕ Nat) (w2 : px_W), a_l_M_take_28_2 K z o w2 → px_E px_ET px_P 3 56 2 [some (.ref 28), some (.int m1), none] [] (px_w K s t) o w2 := by
  have hM : px_P[56]? = some pm_M_take := rfl
  intro n
  induction n with
  | zero => intro m1 s t z h; cases h
  | succ n ih =>
    intro m1 s t z h o w2 ha
    unfold l_M_take_28_2 at h
    refine px_blk (i' := 4) (L' := [some (.ref 28), some (.int m1), none]) (S' := [.int m1, .ref 28]) (w' := px_w K s t) (q := []) 2 hM rfl trivial ?_
    rcases px_bi_some h with ⟨v4, s1, t2, hk3, h⟩ | ⟨x5, s1, t2, hk3, h⟩
    · refine px_E_call hM rfl rfl rfl rfl (px_E_mono (by decide) (e_M_isUsed_28 K N m1 s t _ hk3)) ?_
      refine px_blkif (c := v4 = 0) (t := 8) (e := 6) (L' := [some (.ref 28), some (.int m1), none]) (S' := []) (w' := px_w K s1 t2) (q := []) 1 hM rfl trivial (fun hc6 => ?_) (fun hc6 => ?_)
      · rw [if_pos hc6] at h
        cases h
        exact px_E_le (px_leC_L _ _ (by simp [px_leC, px_le1, Value.category])) ha
      · rw [if_neg hc6] at h
        refine px_blk (i' := 2) (L' := [some (.ref 28), some (.int (m1 + (1 : Int32))), none]) (S' := []) (w' := px_w K s1 t2) (q := []) 2 hM rfl trivial ?_
        exact ih (m1 + (1 : Int32)) s1 t2 z h o w2 ha
    · cases h
set_option maxRecDepth 100000 in
theorem e_l_M_take_28_34 (K : px_K) (N : Nat) (u1 : Int32) : ∀ (n : Nat) (m2 : Int32) (s : px_S) (t : px_W) (z : px_LO), l_M_take_28_34 K N n u1 m2 s t = some z → ∀ (o : Option Value ⊕ Nat) (w2 : px_W), a_l_M_take_28_34 K u1 z o w2 → px_E px_ET px_P 3 56 34 [some (.ref 28), some (.int u1), some (.int m2)] [] (px_w K s t) o w2 := by
  have hM : px_P[56]? = some pm_M_take := rfl
  intro n
  induction n with
  | zero => intro m2 s t z h; cases h
  | succ n ih =>
    intro m2 s t z h o w2 ha
    unfold l_M_take_28_34 at h
    refine px_blkif (c := (16 : Int32) ≤ m2) (t := 44) (e := 37) (L' := [some (.ref 28), some (.int u1), some (.int m2)]) (S' := []) (w' := px_w K s t) (q := []) 3 hM rfl trivial (fun hc1 => ?_) (fun hc1 => ?_)
    · rw [if_pos hc1] at h
      cases h
      exact px_E_le (px_leC_L _ _ (by simp [px_leC, px_le1, Value.category])) ha
    · rw [if_neg hc1] at h
      refine px_blk (i' := 41) (L' := [some (.ref 28), some (.int u1), some (.int m2)]) (S' := [.int (0 : Int32), .int m2, .int u1, .ref 28]) (w' := px_w K s t) (q := []) 4 hM rfl trivial ?_
      rcases px_bv_some h with ⟨s2, t3, hk4, h⟩ | ⟨x6, s2, t3, hk4, h⟩
      · refine px_E_call hM rfl rfl rfl rfl (px_E_mono (by decide) (e_M_tell_28 K N u1 m2 (0 : Int32) s t _ hk4)) ?_
        refine px_blk (i' := 34) (L' := [some (.ref 28), some (.int u1), some (.int (m2 + (1 : Int32)))]) (S' := []) (w' := px_w K s2 t3) (q := []) 2 hM rfl trivial ?_
        exact ih (m2 + (1 : Int32)) s2 t3 z h o w2 ha
      · cases h
noncomputable def f_M_take_28 (K : px_K) (N : Nat) (s : px_S) (t : px_W) : Option px_Res :=
  (px_lp (l_M_take_28_2 K N N (42 : Int32) s t) (fun i1 vs2 s3 t4 => (if i1 = 8 then (px_v1 vs2 (fun y7 => (px_bi (f_M_word_28 K N (29 : Int32) ((y7 - (42 : Int32)) / (32 : Int32)) s3 t4) (fun v12 s9 t10 => (px_bv (f_M_tell_28 K N (29 : Int32) ((y7 - (42 : Int32)) / (32 : Int32)) (v12 ||| ((1 : Int32) <<< (((y7 - (42 : Int32)) - (y7 - (42 : Int32)) / (32 : Int32) * (32 : Int32)) &&& 31))) s9 t10) (fun s14 t15 => (px_lp (l_M_take_28_34 K N N y7 (0 : Int32) s14 t15) (fun i19 vs20 s21 t22 => (if i19 = 44 then (px_v0 vs20 (some (.inl (some (.int y7)), s21, t22))) else none)) (fun z24 => some z24))) (fun x18 s14 t15 => none))) (fun x13 s9 t10 => none)))) else none)) (fun z6 => some z6))
set_option maxRecDepth 100000 in
theorem e_M_take_28 (K : px_K) (N : Nat) (s : px_S) (t : px_W) (r : px_Res) (h : f_M_take_28 K N s t = some r) : px_E px_ET px_P 3 56 0 (px_ent 3 [.ref 28]) [] (px_w K s t) r.1 (px_w K r.2.1 r.2.2) := by
  have hM : px_P[56]? = some pm_M_take := rfl
  unfold f_M_take_28 at h
  refine px_blk (i' := 2) (L' := [some (.ref 28), some (.int (42 : Int32)), none]) (S' := []) (w' := px_w K s t) (q := []) 2 hM rfl trivial ?_
  rcases px_lp_some h with ⟨i1, vs2, s3, t4, hl5, h⟩ | ⟨z6, hl5, h⟩
  · by_cases hi8 : i1 = 8
    · subst hi8
      rw [if_pos rfl] at h
      have h9 := px_v1_some h
      clear h
      obtain ⟨y7, rfl, h⟩ := h9
      refine e_l_M_take_28_2 K N N (42 : Int32) s t _ hl5 _ _ ?_
      show px_E px_ET px_P 3 56 8 [some (.ref 28), some (.int y7), none] [] (px_w K s3 t4) _ _
      refine px_blk (i' := 20) (L' := [some (.ref 28), some (.int y7), none]) (S' := [.int (y7 - (42 : Int32)), .int (29 : Int32), .ref 28, .int ((y7 - (42 : Int32)) / (32 : Int32)), .int (29 : Int32), .ref 28]) (w' := px_w K s3 t4) (q := [¬ (32 : Int32) = 0]) 12 hM rfl (show ¬ (32 : Int32) = 0 from (by decide)) ?_
      refine px_blk (i' := 22) (L' := [some (.ref 28), some (.int y7), none]) (S' := [.int ((y7 - (42 : Int32)) / (32 : Int32)), .int (29 : Int32), .ref 28, .int ((y7 - (42 : Int32)) / (32 : Int32)), .int (29 : Int32), .ref 28]) (w' := px_w K s3 t4) (q := [¬ (32 : Int32) = 0]) 2 hM rfl (show ¬ (32 : Int32) = 0 from (by decide)) ?_
      rcases px_bi_some h with ⟨v12, s9, t10, hk11, h⟩ | ⟨x13, s9, t10, hk11, h⟩
      · refine px_E_call hM rfl rfl rfl rfl (px_E_mono (by decide) (e_M_word_28 K N (29 : Int32) ((y7 - (42 : Int32)) / (32 : Int32)) s3 t4 _ hk11)) ?_
        refine px_blk (i' := 31) (L' := [some (.ref 28), some (.int y7), none]) (S' := [.int (v12 ||| ((1 : Int32) <<< (((y7 - (42 : Int32)) - (y7 - (42 : Int32)) / (32 : Int32) * (32 : Int32)) &&& 31))), .int ((y7 - (42 : Int32)) / (32 : Int32)), .int (29 : Int32), .ref 28]) (w' := px_w K s9 t10) (q := [¬ (32 : Int32) = 0]) 8 hM rfl (show ¬ (32 : Int32) = 0 from (by decide)) ?_
        rcases px_bv_some h with ⟨s14, t15, hk16, h⟩ | ⟨x18, s14, t15, hk16, h⟩
        · refine px_E_call hM rfl rfl rfl rfl (px_E_mono (by decide) (e_M_tell_28 K N (29 : Int32) ((y7 - (42 : Int32)) / (32 : Int32)) (v12 ||| ((1 : Int32) <<< (((y7 - (42 : Int32)) - (y7 - (42 : Int32)) / (32 : Int32) * (32 : Int32)) &&& 31))) s9 t10 _ hk16)) ?_
          refine px_blk (i' := 34) (L' := [some (.ref 28), some (.int y7), some (.int (0 : Int32))]) (S' := []) (w' := px_w K s14 t15) (q := []) 2 hM rfl trivial ?_
          rcases px_lp_some h with ⟨i19, vs20, s21, t22, hl23, h⟩ | ⟨z24, hl23, h⟩
          · by_cases hi25 : i19 = 44
            · subst hi25
              rw [if_pos rfl] at h
              have h9 := px_v0_some h
              clear h
              obtain ⟨rfl, h⟩ := h9
              refine e_l_M_take_28_34 K N y7 N (0 : Int32) s14 t15 _ hl23 _ _ ?_
              show px_E px_ET px_P 3 56 44 [none, some (.int y7), none] [] (px_w K s21 t22) _ _
              refine px_blk (i' := 45) (L' := [none, some (.int y7), none]) (S' := [.int y7]) (w' := px_w K s21 t22) (q := []) 1 hM rfl trivial ?_
              cases h
              exact px_E_ret hM rfl rfl rfl trivial
            · rw [if_neg hi25] at h
              cases h
          · cases h
            exact e_l_M_take_28_34 K N y7 N (0 : Int32) s14 t15 _ hl23 _ _ ⟨rfl, rfl⟩
        · cases h
      · cases h
    · rw [if_neg hi8] at h
      cases h
  · cases h
    exact e_l_M_take_28_2 K N N (42 : Int32) s t _ hl5 _ _ ⟨rfl, rfl⟩
noncomputable def f_M_giveBack_28 (K : px_K) (N : Nat) (a0 : Int32) (s : px_S) (t : px_W) : Option px_Res :=
  (px_bi (f_M_word_28 K N (29 : Int32) ((a0 - (42 : Int32)) / (32 : Int32)) s t) (fun v4 s1 t2 => (px_bv (f_M_tell_28 K N (29 : Int32) ((a0 - (42 : Int32)) / (32 : Int32)) (v4 &&& (((1 : Int32) <<< (((a0 - (42 : Int32)) - (a0 - (42 : Int32)) / (32 : Int32) * (32 : Int32)) &&& 31)) ^^^ (-1 : Int32))) s1 t2) (fun s6 t7 => (some (.inl none, s6, t7))) (fun x10 s6 t7 => none))) (fun x5 s1 t2 => none))
set_option maxRecDepth 100000 in
theorem e_M_giveBack_28 (K : px_K) (N : Nat) (a0 : Int32) (s : px_S) (t : px_W) (r : px_Res) (h : f_M_giveBack_28 K N a0 s t = some r) : px_E px_ET px_P 2 57 0 (px_ent 2 [.ref 28, .int a0]) [] (px_w K s t) r.1 (px_w K r.2.1 r.2.2) := by
  have hM : px_P[57]? = some pm_M_giveBack := rfl
  unfold f_M_giveBack_28 at h
  refine px_blk (i' := 12) (L' := [some (.ref 28), some (.int a0)]) (S' := [.int (a0 - (42 : Int32)), .int (29 : Int32), .ref 28, .int ((a0 - (42 : Int32)) / (32 : Int32)), .int (29 : Int32), .ref 28]) (w' := px_w K s t) (q := [¬ (32 : Int32) = 0]) 12 hM rfl (show ¬ (32 : Int32) = 0 from (by decide)) ?_
  refine px_blk (i' := 14) (L' := [some (.ref 28), some (.int a0)]) (S' := [.int ((a0 - (42 : Int32)) / (32 : Int32)), .int (29 : Int32), .ref 28, .int ((a0 - (42 : Int32)) / (32 : Int32)), .int (29 : Int32), .ref 28]) (w' := px_w K s t) (q := [¬ (32 : Int32) = 0]) 2 hM rfl (show ¬ (32 : Int32) = 0 from (by decide)) ?_
  rcases px_bi_some h with ⟨v4, s1, t2, hk3, h⟩ | ⟨x5, s1, t2, hk3, h⟩
  · refine px_E_call hM rfl rfl rfl rfl (px_E_mono (by decide) (e_M_word_28 K N (29 : Int32) ((a0 - (42 : Int32)) / (32 : Int32)) s t _ hk3)) ?_
    refine px_blk (i' := 25) (L' := [some (.ref 28), some (.int a0)]) (S' := [.int (v4 &&& (((1 : Int32) <<< (((a0 - (42 : Int32)) - (a0 - (42 : Int32)) / (32 : Int32) * (32 : Int32)) &&& 31)) ^^^ (-1 : Int32))), .int ((a0 - (42 : Int32)) / (32 : Int32)), .int (29 : Int32), .ref 28]) (w' := px_w K s1 t2) (q := [¬ (32 : Int32) = 0]) 10 hM rfl (show ¬ (32 : Int32) = 0 from (by decide)) ?_
    rcases px_bv_some h with ⟨s6, t7, hk8, h⟩ | ⟨x10, s6, t7, hk8, h⟩
    · refine px_E_call hM rfl rfl rfl rfl (px_E_mono (by decide) (e_M_tell_28 K N (29 : Int32) ((a0 - (42 : Int32)) / (32 : Int32)) (v4 &&& (((1 : Int32) <<< (((a0 - (42 : Int32)) - (a0 - (42 : Int32)) / (32 : Int32) * (32 : Int32)) &&& 31)) ^^^ (-1 : Int32))) s1 t2 _ hk8)) ?_
      cases h
      exact px_E_ret hM rfl rfl rfl trivial
    · cases h
  · cases h
noncomputable def f_M_blockOf_28 (K : px_K) (N : Nat) (a0 : Int32) (a1 : Int32) (s : px_S) (t : px_W) : Option px_Res :=
  (if (4 : Int32) ≤ a1 then (px_bi (f_M_ofInode_28 K N a0 (6 : Int32) s t) (fun v5 s2 t3 => (if ¬ v5 = 0 then (px_bi (f_M_word_28 K N v5 (a1 - (4 : Int32)) s2 t3) (fun v11 s8 t9 => (some (.inl (some (.int v11)), s8, t9))) (fun x12 s8 t9 => none)) else (some (.inl (some (.int (0 : Int32))), s2, t3)))) (fun x6 s2 t3 => none)) else (px_bi (f_M_ofInode_28 K N a0 ((2 : Int32) + a1) s t) (fun v16 s13 t14 => (some (.inl (some (.int v16)), s13, t14))) (fun x17 s13 t14 => none)))
set_option maxRecDepth 100000 in
theorem e_M_blockOf_28 (K : px_K) (N : Nat) (a0 : Int32) (a1 : Int32) (s : px_S) (t : px_W) (r : px_Res) (h : f_M_blockOf_28 K N a0 a1 s t = some r) : px_E px_ET px_P 3 58 0 (px_ent 4 [.ref 28, .int a0, .int a1]) [] (px_w K s t) r.1 (px_w K r.2.1 r.2.2) := by
  have hM : px_P[58]? = some pm_M_blockOf := rfl
  unfold f_M_blockOf_28 at h
  refine px_blkif (c := (4 : Int32) ≤ a1) (t := 10) (e := 3) (L' := [some (.ref 28), some (.int a0), some (.int a1), none]) (S' := []) (w' := px_w K s t) (q := []) 3 hM rfl trivial (fun hc1 => ?_) (fun hc1 => ?_)
  · rw [if_pos hc1] at h
    refine px_blk (i' := 13) (L' := [some (.ref 28), some (.int a0), some (.int a1), none]) (S' := [.int (6 : Int32), .int a0, .ref 28]) (w' := px_w K s t) (q := []) 3 hM rfl trivial ?_
    rcases px_bi_some h with ⟨v5, s2, t3, hk4, h⟩ | ⟨x6, s2, t3, hk4, h⟩
    · refine px_E_call hM rfl rfl rfl rfl (px_E_mono (by decide) (e_M_ofInode_28 K N a0 (6 : Int32) s t _ hk4)) ?_
      refine px_blkif (c := ¬ v5 = 0) (t := 19) (e := 17) (L' := [some (.ref 28), some (.int a0), some (.int a1), some (.int v5)]) (S' := []) (w' := px_w K s2 t3) (q := []) 3 hM rfl trivial (fun hc7 => ?_) (fun hc7 => ?_)
      · rw [if_pos hc7] at h
        refine px_blk (i' := 24) (L' := [some (.ref 28), some (.int a0), some (.int a1), some (.int v5)]) (S' := [.int (a1 - (4 : Int32)), .int v5, .ref 28]) (w' := px_w K s2 t3) (q := []) 5 hM rfl trivial ?_
        rcases px_bi_some h with ⟨v11, s8, t9, hk10, h⟩ | ⟨x12, s8, t9, hk10, h⟩
        · refine px_E_call hM rfl rfl rfl rfl (px_E_mono (by decide) (e_M_word_28 K N v5 (a1 - (4 : Int32)) s2 t3 _ hk10)) ?_
          cases h
          exact px_E_ret hM rfl rfl rfl trivial
        · cases h
      · rw [if_neg hc7] at h
        refine px_blk (i' := 25) (L' := [some (.ref 28), some (.int a0), some (.int a1), some (.int v5)]) (S' := [.int (0 : Int32)]) (w' := px_w K s2 t3) (q := []) 2 hM rfl trivial ?_
        cases h
        exact px_E_ret hM rfl rfl rfl trivial
    · cases h
  · rw [if_neg hc1] at h
    refine px_blk (i' := 8) (L' := [some (.ref 28), some (.int a0), some (.int a1), none]) (S' := [.int ((2 : Int32) + a1), .int a0, .ref 28]) (w' := px_w K s t) (q := []) 5 hM rfl trivial ?_
    rcases px_bi_some h with ⟨v16, s13, t14, hk15, h⟩ | ⟨x17, s13, t14, hk15, h⟩
    · refine px_E_call hM rfl rfl rfl rfl (px_E_mono (by decide) (e_M_ofInode_28 K N a0 ((2 : Int32) + a1) s t _ hk15)) ?_
      cases h
      exact px_E_ret hM rfl rfl rfl trivial
    · cases h
noncomputable def f_M_wants_28 (K : px_K) (N : Nat) (a0 : Int32) (a1 : Int32) (s : px_S) (t : px_W) : Option px_Res :=
  (if a1 < (4 : Int32) then (some (.inl (some (.int (1 : Int32))), s, t)) else (px_bi (f_M_ofInode_28 K N a0 (6 : Int32) s t) (fun v5 s2 t3 => (some (.inl (some (.int (if ¬ v5 = 0 then (1 : Int32) else (2 : Int32)))), s2, t3))) (fun x6 s2 t3 => none)))
set_option maxRecDepth 100000 in
theorem e_M_wants_28 (K : px_K) (N : Nat) (a0 : Int32) (a1 : Int32) (s : px_S) (t : px_W) (r : px_Res) (h : f_M_wants_28 K N a0 a1 s t = some r) : px_E px_ET px_P 3 59 0 (px_ent 3 [.ref 28, .int a0, .int a1]) [] (px_w K s t) r.1 (px_w K r.2.1 r.2.2) := by
  have hM : px_P[59]? = some pm_M_wants := rfl
  unfold f_M_wants_28 at h
  refine px_blkif (c := a1 < (4 : Int32)) (t := 10) (e := 3) (L' := [some (.ref 28), some (.int a0), some (.int a1)]) (S' := []) (w' := px_w K s t) (q := []) 3 hM rfl trivial (fun hc1 => ?_) (fun hc1 => ?_)
  · rw [if_pos hc1] at h
    refine px_blk (i' := 11) (L' := [some (.ref 28), some (.int a0), some (.int a1)]) (S' := [.int (1 : Int32)]) (w' := px_w K s t) (q := []) 1 hM rfl trivial ?_
    cases h
    exact px_E_ret hM rfl rfl rfl trivial
  · rw [if_neg hc1] at h
    refine px_blk (i' := 6) (L' := [some (.ref 28), some (.int a0), some (.int a1)]) (S' := [.int (6 : Int32), .int a0, .ref 28]) (w' := px_w K s t) (q := []) 3 hM rfl trivial ?_
    rcases px_bi_some h with ⟨v5, s2, t3, hk4, h⟩ | ⟨x6, s2, t3, hk4, h⟩
    · refine px_E_call hM rfl rfl rfl rfl (px_E_mono (by decide) (e_M_ofInode_28 K N a0 (6 : Int32) s t _ hk4)) ?_
      have hK : px_E px_ET px_P 3 59 11 [some (.ref 28), some (.int a0), some (.int a1)] [.int (if ¬ v5 = 0 then (1 : Int32) else (2 : Int32))] (px_w K s2 t3) r.1 (px_w K r.2.1 r.2.2) := by
        cases h
        exact px_E_ret hM rfl rfl rfl trivial
      clear h
      refine px_blkif (c := ¬ v5 = 0) (t := 10) (e := 8) (L' := [some (.ref 28), some (.int a0), some (.int a1)]) (S' := []) (w' := px_w K s2 t3) (q := []) 1 hM rfl trivial (fun hc7 => ?_) (fun hc7 => ?_)
      · rw [if_pos hc7] at hK
        exact px_blk (i' := 11) (L' := [some (.ref 28), some (.int a0), some (.int a1)]) (S' := [.int (1 : Int32)]) (w' := px_w K s2 t3) (q := []) 1 hM rfl trivial hK
      · rw [if_neg hc7] at hK
        exact px_blk (i' := 11) (L' := [some (.ref 28), some (.int a0), some (.int a1)]) (S' := [.int (2 : Int32)]) (w' := px_w K s2 t3) (q := []) 2 hM rfl trivial hK
    · cases h
noncomputable def f_M_takeFor_28 (K : px_K) (N : Nat) (a0 : Int32) (a1 : Int32) (s : px_S) (t : px_W) : Option px_Res :=
  (px_bi (f_M_wants_28 K N a0 a1 s t) (fun v4 s1 t2 => (if ¬ v4 = (2 : Int32) then (px_bi (f_M_take_28 K N s1 t2) (fun v10 s7 t8 => (if (4 : Int32) ≤ a1 then (px_bi (f_M_ofInode_28 K N a0 (6 : Int32) s7 t8) (fun v16 s13 t14 => (px_bv (f_M_tell_28 K N v16 (a1 - (4 : Int32)) v10 s13 t14) (fun s18 t19 => (some (.inl (some (.int v10)), s18, t19))) (fun x22 s18 t19 => none))) (fun x17 s13 t14 => none)) else (px_bv (f_M_tellInode_28 K N a0 ((2 : Int32) + a1) v10 s7 t8) (fun s23 t24 => (some (.inl (some (.int v10)), s23, t24))) (fun x27 s23 t24 => none)))) (fun x11 s7 t8 => none)) else (px_bi (f_M_take_28 K N s1 t2) (fun v31 s28 t29 => (px_bv (f_M_tellInode_28 K N a0 (6 : Int32) v31 s28 t29) (fun s33 t34 => (px_bi (f_M_take_28 K N s33 t34) (fun v41 s38 t39 => (if (4 : Int32) ≤ a1 then (px_bi (f_M_ofInode_28 K N a0 (6 : Int32) s38 t39) (fun v47 s44 t45 => (px_bv (f_M_tell_28 K N v47 (a1 - (4 : Int32)) v41 s44 t45) (fun s49 t50 => (some (.inl (some (.int v41)), s49, t50))) (fun x53 s49 t50 => none))) (fun x48 s44 t45 => none)) else (px_bv (f_M_tellInode_28 K N a0 ((2 : Int32) + a1) v41 s38 t39) (fun s54 t55 => (some (.inl (some (.int v41)), s54, t55))) (fun x58 s54 t55 => none)))) (fun x42 s38 t39 => none))) (fun x37 s33 t34 => none))) (fun x32 s28 t29 => none)))) (fun x5 s1 t2 => none))
set_option maxRecDepth 100000 in
theorem e_M_takeFor_28 (K : px_K) (N : Nat) (a0 : Int32) (a1 : Int32) (s : px_S) (t : px_W) (r : px_Res) (h : f_M_takeFor_28 K N a0 a1 s t = some r) : px_E px_ET px_P 4 60 0 (px_ent 4 [.ref 28, .int a0, .int a1]) [] (px_w K s t) r.1 (px_w K r.2.1 r.2.2) := by
  have hM : px_P[60]? = some pm_M_takeFor := rfl
  unfold f_M_takeFor_28 at h
  refine px_blk (i' := 3) (L' := [some (.ref 28), some (.int a0), some (.int a1), none]) (S' := [.int a1, .int a0, .ref 28]) (w' := px_w K s t) (q := []) 3 hM rfl trivial ?_
  rcases px_bi_some h with ⟨v4, s1, t2, hk3, h⟩ | ⟨x5, s1, t2, hk3, h⟩
  · refine px_E_call hM rfl rfl rfl rfl (px_E_mono (by decide) (e_M_wants_28 K N a0 a1 s t _ hk3)) ?_
    refine px_blkif (c := ¬ v4 = (2 : Int32)) (t := 12) (e := 6) (L' := [some (.ref 28), some (.int a0), some (.int a1), none]) (S' := []) (w' := px_w K s1 t2) (q := []) 2 hM rfl trivial (fun hc6 => ?_) (fun hc6 => ?_)
    · rw [if_pos hc6] at h
      refine px_blk (i' := 13) (L' := [some (.ref 28), some (.int a0), some (.int a1), none]) (S' := [.ref 28]) (w' := px_w K s1 t2) (q := []) 1 hM rfl trivial ?_
      rcases px_bi_some h with ⟨v10, s7, t8, hk9, h⟩ | ⟨x11, s7, t8, hk9, h⟩
      · refine px_E_call hM rfl rfl rfl rfl (px_E_mono (by decide) (e_M_take_28 K N s1 t2 _ hk9)) ?_
        refine px_blkif (c := (4 : Int32) ≤ a1) (t := 26) (e := 18) (L' := [some (.ref 28), some (.int a0), some (.int a1), some (.int v10)]) (S' := []) (w' := px_w K s7 t8) (q := []) 4 hM rfl trivial (fun hc12 => ?_) (fun hc12 => ?_)
        · rw [if_pos hc12] at h
          refine px_blk (i' := 30) (L' := [some (.ref 28), some (.int a0), some (.int a1), some (.int v10)]) (S' := [.int (6 : Int32), .int a0, .ref 28, .ref 28]) (w' := px_w K s7 t8) (q := []) 4 hM rfl trivial ?_
          rcases px_bi_some h with ⟨v16, s13, t14, hk15, h⟩ | ⟨x17, s13, t14, hk15, h⟩
          · refine px_E_call hM rfl rfl rfl rfl (px_E_mono (by decide) (e_M_ofInode_28 K N a0 (6 : Int32) s7 t8 _ hk15)) ?_
            refine px_blk (i' := 35) (L' := [some (.ref 28), some (.int a0), some (.int a1), some (.int v10)]) (S' := [.int v10, .int (a1 - (4 : Int32)), .int v16, .ref 28]) (w' := px_w K s13 t14) (q := []) 4 hM rfl trivial ?_
            rcases px_bv_some h with ⟨s18, t19, hk20, h⟩ | ⟨x22, s18, t19, hk20, h⟩
            · refine px_E_call hM rfl rfl rfl rfl (px_E_mono (by decide) (e_M_tell_28 K N v16 (a1 - (4 : Int32)) v10 s13 t14 _ hk20)) ?_
              refine px_blk (i' := 37) (L' := [some (.ref 28), some (.int a0), some (.int a1), some (.int v10)]) (S' := [.int v10]) (w' := px_w K s18 t19) (q := []) 1 hM rfl trivial ?_
              cases h
              exact px_E_ret hM rfl rfl rfl trivial
            · cases h
          · cases h
        · rw [if_neg hc12] at h
          refine px_blk (i' := 24) (L' := [some (.ref 28), some (.int a0), some (.int a1), some (.int v10)]) (S' := [.int v10, .int ((2 : Int32) + a1), .int a0, .ref 28]) (w' := px_w K s7 t8) (q := []) 6 hM rfl trivial ?_
          rcases px_bv_some h with ⟨s23, t24, hk25, h⟩ | ⟨x27, s23, t24, hk25, h⟩
          · refine px_E_call hM rfl rfl rfl rfl (px_E_mono (by decide) (e_M_tellInode_28 K N a0 ((2 : Int32) + a1) v10 s7 t8 _ hk25)) ?_
            refine px_blk (i' := 37) (L' := [some (.ref 28), some (.int a0), some (.int a1), some (.int v10)]) (S' := [.int v10]) (w' := px_w K s23 t24) (q := []) 2 hM rfl trivial ?_
            cases h
            exact px_E_ret hM rfl rfl rfl trivial
          · cases h
      · cases h
    · rw [if_neg hc6] at h
      refine px_blk (i' := 10) (L' := [some (.ref 28), some (.int a0), some (.int a1), none]) (S' := [.ref 28, .int (6 : Int32), .int a0, .ref 28]) (w' := px_w K s1 t2) (q := []) 4 hM rfl trivial ?_
      rcases px_bi_some h with ⟨v31, s28, t29, hk30, h⟩ | ⟨x32, s28, t29, hk30, h⟩
      · refine px_E_call hM rfl rfl rfl rfl (px_E_mono (by decide) (e_M_take_28 K N s1 t2 _ hk30)) ?_
        rcases px_bv_some h with ⟨s33, t34, hk35, h⟩ | ⟨x37, s33, t34, hk35, h⟩
        · refine px_E_call hM rfl rfl rfl rfl (px_E_mono (by decide) (e_M_tellInode_28 K N a0 (6 : Int32) v31 s28 t29 _ hk35)) ?_
          refine px_blk (i' := 13) (L' := [some (.ref 28), some (.int a0), some (.int a1), none]) (S' := [.ref 28]) (w' := px_w K s33 t34) (q := []) 1 hM rfl trivial ?_
          rcases px_bi_some h with ⟨v41, s38, t39, hk40, h⟩ | ⟨x42, s38, t39, hk40, h⟩
          · refine px_E_call hM rfl rfl rfl rfl (px_E_mono (by decide) (e_M_take_28 K N s33 t34 _ hk40)) ?_
            refine px_blkif (c := (4 : Int32) ≤ a1) (t := 26) (e := 18) (L' := [some (.ref 28), some (.int a0), some (.int a1), some (.int v41)]) (S' := []) (w' := px_w K s38 t39) (q := []) 4 hM rfl trivial (fun hc43 => ?_) (fun hc43 => ?_)
            · rw [if_pos hc43] at h
              refine px_blk (i' := 30) (L' := [some (.ref 28), some (.int a0), some (.int a1), some (.int v41)]) (S' := [.int (6 : Int32), .int a0, .ref 28, .ref 28]) (w' := px_w K s38 t39) (q := []) 4 hM rfl trivial ?_
              rcases px_bi_some h with ⟨v47, s44, t45, hk46, h⟩ | ⟨x48, s44, t45, hk46, h⟩
              · refine px_E_call hM rfl rfl rfl rfl (px_E_mono (by decide) (e_M_ofInode_28 K N a0 (6 : Int32) s38 t39 _ hk46)) ?_
                refine px_blk (i' := 35) (L' := [some (.ref 28), some (.int a0), some (.int a1), some (.int v41)]) (S' := [.int v41, .int (a1 - (4 : Int32)), .int v47, .ref 28]) (w' := px_w K s44 t45) (q := []) 4 hM rfl trivial ?_
                rcases px_bv_some h with ⟨s49, t50, hk51, h⟩ | ⟨x53, s49, t50, hk51, h⟩
                · refine px_E_call hM rfl rfl rfl rfl (px_E_mono (by decide) (e_M_tell_28 K N v47 (a1 - (4 : Int32)) v41 s44 t45 _ hk51)) ?_
                  refine px_blk (i' := 37) (L' := [some (.ref 28), some (.int a0), some (.int a1), some (.int v41)]) (S' := [.int v41]) (w' := px_w K s49 t50) (q := []) 1 hM rfl trivial ?_
                  cases h
                  exact px_E_ret hM rfl rfl rfl trivial
                · cases h
              · cases h
            · rw [if_neg hc43] at h
              refine px_blk (i' := 24) (L' := [some (.ref 28), some (.int a0), some (.int a1), some (.int v41)]) (S' := [.int v41, .int ((2 : Int32) + a1), .int a0, .ref 28]) (w' := px_w K s38 t39) (q := []) 6 hM rfl trivial ?_
              rcases px_bv_some h with ⟨s54, t55, hk56, h⟩ | ⟨x58, s54, t55, hk56, h⟩
              · refine px_E_call hM rfl rfl rfl rfl (px_E_mono (by decide) (e_M_tellInode_28 K N a0 ((2 : Int32) + a1) v41 s38 t39 _ hk56)) ?_
                refine px_blk (i' := 37) (L' := [some (.ref 28), some (.int a0), some (.int a1), some (.int v41)]) (S' := [.int v41]) (w' := px_w K s54 t55) (q := []) 2 hM rfl trivial ?_
                cases h
                exact px_E_ret hM rfl rfl rfl trivial
              · cases h
          · cases h
        · cases h
      · cases h
  · cases h
noncomputable def f_M_nameAt_28 (K : px_K) (N : Nat) (a0 : Int32) (a1 : Int32) (s : px_S) (t : px_W) : Option px_Res :=
  (px_bi (f_M_blockOf_28 K N a0 (a1 / (8 : Int32)) s t) (fun v4 s1 t2 => (px_bi (f_M_word_28 K N v4 ((2 : Int32) * (a1 - a1 / (8 : Int32) * (8 : Int32))) s1 t2) (fun v9 s6 t7 => (some (.inl (some (.int v9)), s6, t7))) (fun x10 s6 t7 => none))) (fun x5 s1 t2 => none))
set_option maxRecDepth 100000 in
theorem e_M_nameAt_28 (K : px_K) (N : Nat) (a0 : Int32) (a1 : Int32) (s : px_S) (t : px_W) (r : px_Res) (h : f_M_nameAt_28 K N a0 a1 s t = some r) : px_E px_ET px_P 4 61 0 (px_ent 3 [.ref 28, .int a0, .int a1]) [] (px_w K s t) r.1 (px_w K r.2.1 r.2.2) := by
  have hM : px_P[61]? = some pm_M_nameAt := rfl
  unfold f_M_nameAt_28 at h
  refine px_blk (i' := 6) (L' := [some (.ref 28), some (.int a0), some (.int a1)]) (S' := [.int (a1 / (8 : Int32)), .int a0, .ref 28, .ref 28]) (w' := px_w K s t) (q := [¬ (8 : Int32) = 0]) 6 hM rfl (show ¬ (8 : Int32) = 0 from (by decide)) ?_
  rcases px_bi_some h with ⟨v4, s1, t2, hk3, h⟩ | ⟨x5, s1, t2, hk3, h⟩
  · refine px_E_call hM rfl rfl rfl rfl (px_E_mono (by decide) (e_M_blockOf_28 K N a0 (a1 / (8 : Int32)) s t _ hk3)) ?_
    refine px_blk (i' := 12) (L' := [some (.ref 28), some (.int a0), some (.int a1)]) (S' := [.int ((2 : Int32) * (a1 - a1 / (8 : Int32) * (8 : Int32))), .int v4, .ref 28]) (w' := px_w K s1 t2) (q := [¬ (8 : Int32) = 0]) 5 hM rfl (show ¬ (8 : Int32) = 0 from (by decide)) ?_
    rcases px_bi_some h with ⟨v9, s6, t7, hk8, h⟩ | ⟨x10, s6, t7, hk8, h⟩
    · refine px_E_call hM rfl rfl rfl rfl (px_E_mono (by decide) (e_M_word_28 K N v4 ((2 : Int32) * (a1 - a1 / (8 : Int32) * (8 : Int32))) s1 t2 _ hk8)) ?_
      cases h
      exact px_E_ret hM rfl rfl rfl trivial
    · cases h
  · cases h
noncomputable def f_M_inodeAt_28 (K : px_K) (N : Nat) (a0 : Int32) (a1 : Int32) (s : px_S) (t : px_W) : Option px_Res :=
  (px_bi (f_M_blockOf_28 K N a0 (a1 / (8 : Int32)) s t) (fun v4 s1 t2 => (px_bi (f_M_word_28 K N v4 (((2 : Int32) * (a1 - a1 / (8 : Int32) * (8 : Int32))) + (1 : Int32)) s1 t2) (fun v9 s6 t7 => (some (.inl (some (.int v9)), s6, t7))) (fun x10 s6 t7 => none))) (fun x5 s1 t2 => none))
set_option maxRecDepth 100000 in
theorem e_M_inodeAt_28 (K : px_K) (N : Nat) (a0 : Int32) (a1 : Int32) (s : px_S) (t : px_W) (r : px_Res) (h : f_M_inodeAt_28 K N a0 a1 s t = some r) : px_E px_ET px_P 4 62 0 (px_ent 3 [.ref 28, .int a0, .int a1]) [] (px_w K s t) r.1 (px_w K r.2.1 r.2.2) := by
  have hM : px_P[62]? = some pm_M_inodeAt := rfl
  unfold f_M_inodeAt_28 at h
  refine px_blk (i' := 6) (L' := [some (.ref 28), some (.int a0), some (.int a1)]) (S' := [.int (a1 / (8 : Int32)), .int a0, .ref 28, .ref 28]) (w' := px_w K s t) (q := [¬ (8 : Int32) = 0]) 6 hM rfl (show ¬ (8 : Int32) = 0 from (by decide)) ?_
  rcases px_bi_some h with ⟨v4, s1, t2, hk3, h⟩ | ⟨x5, s1, t2, hk3, h⟩
  · refine px_E_call hM rfl rfl rfl rfl (px_E_mono (by decide) (e_M_blockOf_28 K N a0 (a1 / (8 : Int32)) s t _ hk3)) ?_
    refine px_blk (i' := 14) (L' := [some (.ref 28), some (.int a0), some (.int a1)]) (S' := [.int (((2 : Int32) * (a1 - a1 / (8 : Int32) * (8 : Int32))) + (1 : Int32)), .int v4, .ref 28]) (w' := px_w K s1 t2) (q := [¬ (8 : Int32) = 0]) 7 hM rfl (show ¬ (8 : Int32) = 0 from (by decide)) ?_
    rcases px_bi_some h with ⟨v9, s6, t7, hk8, h⟩ | ⟨x10, s6, t7, hk8, h⟩
    · refine px_E_call hM rfl rfl rfl rfl (px_E_mono (by decide) (e_M_word_28 K N v4 (((2 : Int32) * (a1 - a1 / (8 : Int32) * (8 : Int32))) + (1 : Int32)) s1 t2 _ hk8)) ?_
      cases h
      exact px_E_ret hM rfl rfl rfl trivial
    · cases h
  · cases h
noncomputable def l_M_placeOf_28_7 (K : px_K) (N : Nat) (n : Nat) (u1 : Int32) (u2 : Int32) (m3 : Int32) (s : px_S) (t : px_W) : Option px_LO := match n with
  | 0 => none
  | n + 1 => (if m3 < 0 then (some (.inl (17, [m3], s, t))) else (px_bi (f_M_nameAt_28 K N u1 m3 s t) (fun v5 s2 t3 => (if v5 = u2 then (some (.inl (17, [m3], s2, t3))) else (px_let (m3 + (-1 : Int32)) (fun v8 => (l_M_placeOf_28_7 K N n u1 u2 v8 s2 t3))))) (fun x6 s2 t3 => none)))
def a_l_M_placeOf_28_7 (K : px_K) (u1 : Int32) (u2 : Int32) (z : px_LO) (o : Option Value ⊕ Nat) (w2 : px_W) : Prop := match z with
  | .inr (o', s', t') => o = o' ∧ w2 = px_w K s' t'
  | .inl (17, [y3], s', t') => px_E px_ET px_P 5 63 17 [none, none, some (.int u2), some (.int y3)] [] (px_w K s' t') o w2
  | _ => False
set_option maxRecDepth 100000 in
theorem e_l_M_placeOf_28_7 (K : px_K) (N : Nat) (u1 : Int32) (u2 : Int32) : ∀ (n : Nat) (m3 : Int32) (s : px_S) (t : px_W) (z : px_LO), l_M_placeOf_28_7 K N n u1 u2 m3 s t = some z → ∀ (o : Option Value ⊕ Nat) (w2 : px_W), a_l_M_placeOf_28_7 K u1 u2 z o w2 → px_E px_ET px_P 5 63 7 [some (.ref 28), some (.int u1), some (.int u2), some (.int m3)] [] (px_w K s t) o w2 := by
  have hM : px_P[63]? = some pm_M_placeOf := rfl
  intro n
  induction n with
  | zero => intro m3 s t z h; cases h
  | succ n ih =>
    intro m3 s t z h o w2 ha
    unfold l_M_placeOf_28_7 at h
    refine px_blkif (c := m3 < 0) (t := 17) (e := 9) (L' := [some (.ref 28), some (.int u1), some (.int u2), some (.int m3)]) (S' := []) (w' := px_w K s t) (q := []) 2 hM rfl trivial (fun hc1 => ?_) (fun hc1 => ?_)
    · rw [if_pos hc1] at h
      cases h
      exact px_E_le (px_leC_L _ _ (by simp [px_leC, px_le1, Value.category])) ha
    · rw [if_neg hc1] at h
      refine px_blk (i' := 12) (L' := [some (.ref 28), some (.int u1), some (.int u2), some (.int m3)]) (S' := [.int m3, .int u1, .ref 28]) (w' := px_w K s t) (q := []) 3 hM rfl trivial ?_
      rcases px_bi_some h with ⟨v5, s2, t3, hk4, h⟩ | ⟨x6, s2, t3, hk4, h⟩
      · refine px_E_call hM rfl rfl rfl rfl (px_E_mono (by decide) (e_M_nameAt_28 K N u1 m3 s t _ hk4)) ?_
        refine px_blkif (c := v5 = u2) (t := 17) (e := 15) (L' := [some (.ref 28), some (.int u1), some (.int u2), some (.int m3)]) (S' := []) (w' := px_w K s2 t3) (q := []) 2 hM rfl trivial (fun hc7 => ?_) (fun hc7 => ?_)
        · rw [if_pos hc7] at h
          cases h
          exact px_E_le (px_leC_L _ _ (by simp [px_leC, px_le1, Value.category])) ha
        · rw [if_neg hc7] at h
          refine px_blk (i' := 16) (L' := [some (.ref 28), some (.int u1), some (.int u2), some (.int (m3 + (-1 : Int32)))]) (S' := []) (w' := px_w K s2 t3) (q := []) 1 hM rfl trivial ?_
          obtain ⟨v8, hv9, h⟩ := px_let_some h
          rw [← hv9]
          refine px_blk (i' := 7) (L' := [some (.ref 28), some (.int u1), some (.int u2), some (.int v8)]) (S' := []) (w' := px_w K s2 t3) (q := []) 1 hM rfl trivial ?_
          exact ih v8 s2 t3 z h o w2 ha
      · cases h
noncomputable def f_M_placeOf_28 (K : px_K) (N : Nat) (a0 : Int32) (a1 : Int32) (s : px_S) (t : px_W) : Option px_Res :=
  (px_bi (f_M_ofInode_28 K N a0 (1 : Int32) s t) (fun v4 s1 t2 => (px_lp (l_M_placeOf_28_7 K N N a0 a1 (v4 - (1 : Int32)) s1 t2) (fun i6 vs7 s8 t9 => (if i6 = 17 then (px_v1 vs7 (fun y12 => (some (.inl (some (.int (if (1 : Int32) ≤ a1 then y12 else (-1 : Int32)))), s8, t9)))) else none)) (fun z11 => some z11))) (fun x5 s1 t2 => none))
set_option maxRecDepth 100000 in
theorem e_M_placeOf_28 (K : px_K) (N : Nat) (a0 : Int32) (a1 : Int32) (s : px_S) (t : px_W) (r : px_Res) (h : f_M_placeOf_28 K N a0 a1 s t = some r) : px_E px_ET px_P 5 63 0 (px_ent 4 [.ref 28, .int a0, .int a1]) [] (px_w K s t) r.1 (px_w K r.2.1 r.2.2) := by
  have hM : px_P[63]? = some pm_M_placeOf := rfl
  unfold f_M_placeOf_28 at h
  refine px_blk (i' := 3) (L' := [some (.ref 28), some (.int a0), some (.int a1), none]) (S' := [.int (1 : Int32), .int a0, .ref 28]) (w' := px_w K s t) (q := []) 3 hM rfl trivial ?_
  rcases px_bi_some h with ⟨v4, s1, t2, hk3, h⟩ | ⟨x5, s1, t2, hk3, h⟩
  · refine px_E_call hM rfl rfl rfl rfl (px_E_mono (by decide) (e_M_ofInode_28 K N a0 (1 : Int32) s t _ hk3)) ?_
    refine px_blk (i' := 7) (L' := [some (.ref 28), some (.int a0), some (.int a1), some (.int (v4 - (1 : Int32)))]) (S' := []) (w' := px_w K s1 t2) (q := []) 3 hM rfl trivial ?_
    rcases px_lp_some h with ⟨i6, vs7, s8, t9, hl10, h⟩ | ⟨z11, hl10, h⟩
    · by_cases hi13 : i6 = 17
      · subst hi13
        rw [if_pos rfl] at h
        have h9 := px_v1_some h
        clear h
        obtain ⟨y12, rfl, h⟩ := h9
        refine e_l_M_placeOf_28_7 K N a0 a1 N (v4 - (1 : Int32)) s1 t2 _ hl10 _ _ ?_
        show px_E px_ET px_P 5 63 17 [none, none, some (.int a1), some (.int y12)] [] (px_w K s8 t9) _ _
        refine px_blk (i' := 19) (L' := [none, none, some (.int a1), some (.int y12)]) (S' := [.int (1 : Int32), .int a1]) (w' := px_w K s8 t9) (q := []) 2 hM rfl trivial ?_
        have hK : px_E px_ET px_P 5 63 23 [none, none, some (.int a1), some (.int y12)] [.int (if (1 : Int32) ≤ a1 then y12 else (-1 : Int32))] (px_w K s8 t9) r.1 (px_w K r.2.1 r.2.2) := by
          cases h
          exact px_E_ret hM rfl rfl rfl trivial
        clear h
        refine px_blkif (c := (1 : Int32) ≤ a1) (t := 22) (e := 20) (L' := [none, none, some (.int a1), some (.int y12)]) (S' := []) (w' := px_w K s8 t9) (q := []) 1 hM rfl trivial (fun hc14 => ?_) (fun hc14 => ?_)
        · rw [if_pos hc14] at hK
          exact px_blk (i' := 23) (L' := [none, none, some (.int a1), some (.int y12)]) (S' := [.int y12]) (w' := px_w K s8 t9) (q := []) 1 hM rfl trivial hK
        · rw [if_neg hc14] at hK
          exact px_blk (i' := 23) (L' := [none, none, some (.int a1), some (.int y12)]) (S' := [.int (-1 : Int32)]) (w' := px_w K s8 t9) (q := []) 2 hM rfl trivial hK
      · rw [if_neg hi13] at h
        cases h
    · cases h
      exact e_l_M_placeOf_28_7 K N a0 a1 N (v4 - (1 : Int32)) s1 t2 _ hl10 _ _ ⟨rfl, rfl⟩
  · cases h
noncomputable def l_M_freePlace_28_2 (K : px_K) (N : Nat) (n : Nat) (u1 : Int32) (m2 : Int32) (s : px_S) (t : px_W) : Option px_LO := match n with
  | 0 => none
  | n + 1 => (px_bi (f_M_ofInode_28 K N u1 (1 : Int32) s t) (fun v4 s1 t2 => (if v4 ≤ m2 then (some (.inl (15, [m2], s1, t2))) else (px_bi (f_M_nameAt_28 K N u1 m2 s1 t2) (fun v10 s7 t8 => (if v10 = 0 then (some (.inl (15, [m2], s7, t8))) else (l_M_freePlace_28_2 K N n u1 (m2 + (1 : Int32)) s7 t8))) (fun x11 s7 t8 => none)))) (fun x5 s1 t2 => none))
def a_l_M_freePlace_28_2 (K : px_K) (u1 : Int32) (z : px_LO) (o : Option Value ⊕ Nat) (w2 : px_W) : Prop := match z with
  | .inr (o', s', t') => o = o' ∧ w2 = px_w K s' t'
  | .inl (15, [y2], s', t') => px_E px_ET px_P 5 64 15 [none, none, some (.int y2)] [] (px_w K s' t') o w2
  | _ => False
set_option maxRecDepth 100000 in
theorem e_l_M_freePlace_28_2 (K : px_K) (N : Nat) (u1 : Int32) : ∀ (n : Nat) (m2 : Int32) (s : px_S) (t : px_W) (z : px_LO), l_M_freePlace_28_2 K N n u1 m2 s t = some z → ∀ (o : Option Value ⊕ Nat) (w2 : px_W), a_l_M_freePlace_28_2 K u1 z o w2 → px_E px_ET px_P 5 64 2 [some (.ref 28), some (.int u1), some (.int m2)] [] (px_w K s t) o w2 := by
  have hM : px_P[64]? = some pm_M_freePlace := rfl
  intro n
  induction n with
  | zero => intro m2 s t z h; cases h
  | succ n ih =>
    intro m2 s t z h o w2 ha
    unfold l_M_freePlace_28_2 at h
    refine px_blk (i' := 6) (L' := [some (.ref 28), some (.int u1), some (.int m2)]) (S' := [.int (1 : Int32), .int u1, .ref 28, .int m2]) (w' := px_w K s t) (q := []) 4 hM rfl trivial ?_
    rcases px_bi_some h with ⟨v4, s1, t2, hk3, h⟩ | ⟨x5, s1, t2, hk3, h⟩
    · refine px_E_call hM rfl rfl rfl rfl (px_E_mono (by decide) (e_M_ofInode_28 K N u1 (1 : Int32) s t _ hk3)) ?_
      refine px_blkif (c := v4 ≤ m2) (t := 15) (e := 8) (L' := [some (.ref 28), some (.int u1), some (.int m2)]) (S' := []) (w' := px_w K s1 t2) (q := []) 1 hM rfl trivial (fun hc6 => ?_) (fun hc6 => ?_)
      · rw [if_pos hc6] at h
        cases h
        exact px_E_le (px_leC_L _ _ (by simp [px_leC, px_le1, Value.category])) ha
      · rw [if_neg hc6] at h
        refine px_blk (i' := 11) (L' := [some (.ref 28), some (.int u1), some (.int m2)]) (S' := [.int m2, .int u1, .ref 28]) (w' := px_w K s1 t2) (q := []) 3 hM rfl trivial ?_
        rcases px_bi_some h with ⟨v10, s7, t8, hk9, h⟩ | ⟨x11, s7, t8, hk9, h⟩
        · refine px_E_call hM rfl rfl rfl rfl (px_E_mono (by decide) (e_M_nameAt_28 K N u1 m2 s1 t2 _ hk9)) ?_
          refine px_blkif (c := v10 = 0) (t := 15) (e := 13) (L' := [some (.ref 28), some (.int u1), some (.int m2)]) (S' := []) (w' := px_w K s7 t8) (q := []) 1 hM rfl trivial (fun hc12 => ?_) (fun hc12 => ?_)
          · rw [if_pos hc12] at h
            cases h
            exact px_E_le (px_leC_L _ _ (by simp [px_leC, px_le1, Value.category])) ha
          · rw [if_neg hc12] at h
            refine px_blk (i' := 2) (L' := [some (.ref 28), some (.int u1), some (.int (m2 + (1 : Int32)))]) (S' := []) (w' := px_w K s7 t8) (q := []) 2 hM rfl trivial ?_
            exact ih (m2 + (1 : Int32)) s7 t8 z h o w2 ha
        · cases h
    · cases h
noncomputable def f_M_freePlace_28 (K : px_K) (N : Nat) (a0 : Int32) (s : px_S) (t : px_W) : Option px_Res :=
  (px_lp (l_M_freePlace_28_2 K N N a0 (0 : Int32) s t) (fun i1 vs2 s3 t4 => (if i1 = 15 then (px_v1 vs2 (fun y7 => (some (.inl (some (.int y7)), s3, t4)))) else none)) (fun z6 => some z6))
set_option maxRecDepth 100000 in
theorem e_M_freePlace_28 (K : px_K) (N : Nat) (a0 : Int32) (s : px_S) (t : px_W) (r : px_Res) (h : f_M_freePlace_28 K N a0 s t = some r) : px_E px_ET px_P 5 64 0 (px_ent 3 [.ref 28, .int a0]) [] (px_w K s t) r.1 (px_w K r.2.1 r.2.2) := by
  have hM : px_P[64]? = some pm_M_freePlace := rfl
  unfold f_M_freePlace_28 at h
  refine px_blk (i' := 2) (L' := [some (.ref 28), some (.int a0), some (.int (0 : Int32))]) (S' := []) (w' := px_w K s t) (q := []) 2 hM rfl trivial ?_
  rcases px_lp_some h with ⟨i1, vs2, s3, t4, hl5, h⟩ | ⟨z6, hl5, h⟩
  · by_cases hi8 : i1 = 15
    · subst hi8
      rw [if_pos rfl] at h
      have h9 := px_v1_some h
      clear h
      obtain ⟨y7, rfl, h⟩ := h9
      refine e_l_M_freePlace_28_2 K N a0 N (0 : Int32) s t _ hl5 _ _ ?_
      show px_E px_ET px_P 5 64 15 [none, none, some (.int y7)] [] (px_w K s3 t4) _ _
      refine px_blk (i' := 16) (L' := [none, none, some (.int y7)]) (S' := [.int y7]) (w' := px_w K s3 t4) (q := []) 1 hM rfl trivial ?_
      cases h
      exact px_E_ret hM rfl rfl rfl trivial
    · rw [if_neg hi8] at h
      cases h
  · cases h
    exact e_l_M_freePlace_28_2 K N a0 N (0 : Int32) s t _ hl5 _ _ ⟨rfl, rfl⟩
noncomputable def f_M_hasRoom_28 (K : px_K) (N : Nat) (a0 : Int32) (s : px_S) (t : px_W) : Option px_Res :=
  (px_bi (f_M_freePlace_28 K N a0 s t) (fun v4 s1 t2 => (px_bi (f_M_ofInode_28 K N a0 (1 : Int32) s1 t2) (fun v9 s6 t7 => (if v4 < v9 then (some (.inl (some (.int (1 : Int32))), s6, t7)) else (if (160 : Int32) ≤ v4 then (some (.inl (some (.int (0 : Int32))), s6, t7)) else (px_bi (f_M_wants_28 K N a0 (v4 / (8 : Int32)) s6 t7) (fun v16 s13 t14 => (px_bi (f_M_left_28 K N s13 t14) (fun v21 s18 t19 => (some (.inl (some (.int (if v21 < v16 then (0 : Int32) else (1 : Int32)))), s18, t19))) (fun x22 s18 t19 => none))) (fun x17 s13 t14 => none))))) (fun x10 s6 t7 => none))) (fun x5 s1 t2 => none))
set_option maxRecDepth 100000 in
theorem e_M_hasRoom_28 (K : px_K) (N : Nat) (a0 : Int32) (s : px_S) (t : px_W) (r : px_Res) (h : f_M_hasRoom_28 K N a0 s t = some r) : px_E px_ET px_P 6 65 0 (px_ent 3 [.ref 28, .int a0]) [] (px_w K s t) r.1 (px_w K r.2.1 r.2.2) := by
  have hM : px_P[65]? = some pm_M_hasRoom := rfl
  unfold f_M_hasRoom_28 at h
  refine px_blk (i' := 2) (L' := [some (.ref 28), some (.int a0), none]) (S' := [.int a0, .ref 28]) (w' := px_w K s t) (q := []) 2 hM rfl trivial ?_
  rcases px_bi_some h with ⟨v4, s1, t2, hk3, h⟩ | ⟨x5, s1, t2, hk3, h⟩
  · refine px_E_call hM rfl rfl rfl rfl (px_E_mono (by decide) (e_M_freePlace_28 K N a0 s t _ hk3)) ?_
    refine px_blk (i' := 8) (L' := [some (.ref 28), some (.int a0), some (.int v4)]) (S' := [.int (1 : Int32), .int a0, .ref 28, .int v4]) (w' := px_w K s1 t2) (q := []) 5 hM rfl trivial ?_
    rcases px_bi_some h with ⟨v9, s6, t7, hk8, h⟩ | ⟨x10, s6, t7, hk8, h⟩
    · refine px_E_call hM rfl rfl rfl rfl (px_E_mono (by decide) (e_M_ofInode_28 K N a0 (1 : Int32) s1 t2 _ hk8)) ?_
      refine px_blkif (c := v4 < v9) (t := 22) (e := 10) (L' := [some (.ref 28), some (.int a0), some (.int v4)]) (S' := []) (w' := px_w K s6 t7) (q := []) 1 hM rfl trivial (fun hc11 => ?_) (fun hc11 => ?_)
      · rw [if_pos hc11] at h
        refine px_blk (i' := 25) (L' := [some (.ref 28), some (.int a0), some (.int v4)]) (S' := [.int (1 : Int32)]) (w' := px_w K s6 t7) (q := []) 2 hM rfl trivial ?_
        cases h
        exact px_E_ret hM rfl rfl rfl (show (1 : Int32) = 0 ∨ (1 : Int32) = 1 from Or.inr rfl)
      · rw [if_neg hc11] at h
        refine px_blkif (c := (160 : Int32) ≤ v4) (t := 24) (e := 13) (L' := [some (.ref 28), some (.int a0), some (.int v4)]) (S' := []) (w' := px_w K s6 t7) (q := []) 3 hM rfl trivial (fun hc12 => ?_) (fun hc12 => ?_)
        · rw [if_pos hc12] at h
          refine px_blk (i' := 25) (L' := [some (.ref 28), some (.int a0), some (.int v4)]) (S' := [.int (0 : Int32)]) (w' := px_w K s6 t7) (q := []) 1 hM rfl trivial ?_
          cases h
          exact px_E_ret hM rfl rfl rfl (show (0 : Int32) = 0 ∨ (0 : Int32) = 1 from Or.inl rfl)
        · rw [if_neg hc12] at h
          refine px_blk (i' := 18) (L' := [some (.ref 28), some (.int a0), some (.int v4)]) (S' := [.int (v4 / (8 : Int32)), .int a0, .ref 28]) (w' := px_w K s6 t7) (q := [¬ (8 : Int32) = 0]) 5 hM rfl (show ¬ (8 : Int32) = 0 from (by decide)) ?_
          rcases px_bi_some h with ⟨v16, s13, t14, hk15, h⟩ | ⟨x17, s13, t14, hk15, h⟩
          · refine px_E_call hM rfl rfl rfl rfl (px_E_mono (by decide) (e_M_wants_28 K N a0 (v4 / (8 : Int32)) s6 t7 _ hk15)) ?_
            refine px_blk (i' := 20) (L' := [some (.ref 28), some (.int a0), some (.int v4)]) (S' := [.ref 28, .int v16]) (w' := px_w K s13 t14) (q := []) 1 hM rfl trivial ?_
            rcases px_bi_some h with ⟨v21, s18, t19, hk20, h⟩ | ⟨x22, s18, t19, hk20, h⟩
            · refine px_E_call hM rfl rfl rfl rfl (px_E_mono (by decide) (e_M_left_28 K N s13 t14 _ hk20)) ?_
              have hK : px_E px_ET px_P 6 65 25 [some (.ref 28), some (.int a0), some (.int v4)] [.int (if v21 < v16 then (0 : Int32) else (1 : Int32))] (px_w K s18 t19) r.1 (px_w K r.2.1 r.2.2) := by
                cases h
                exact px_E_ret hM rfl rfl rfl (show (if v21 < v16 then (0 : Int32) else (1 : Int32)) = 0 ∨ (if v21 < v16 then (0 : Int32) else (1 : Int32)) = 1 from (by split <;> simp))
              clear h
              refine px_blkif (c := v21 < v16) (t := 24) (e := 22) (L' := [some (.ref 28), some (.int a0), some (.int v4)]) (S' := []) (w' := px_w K s18 t19) (q := []) 1 hM rfl trivial (fun hc23 => ?_) (fun hc23 => ?_)
              · rw [if_pos hc23] at hK
                exact px_blk (i' := 25) (L' := [some (.ref 28), some (.int a0), some (.int v4)]) (S' := [.int (0 : Int32)]) (w' := px_w K s18 t19) (q := []) 1 hM rfl trivial hK
              · rw [if_neg hc23] at hK
                exact px_blk (i' := 25) (L' := [some (.ref 28), some (.int a0), some (.int v4)]) (S' := [.int (1 : Int32)]) (w' := px_w K s18 t19) (q := []) 2 hM rfl trivial hK
            · cases h
          · cases h
    · cases h
  · cases h
noncomputable def f_M_enter_28 (K : px_K) (N : Nat) (a0 : Int32) (a1 : Int32) (a2 : Int32) (s : px_S) (t : px_W) : Option px_Res :=
  (px_bi (f_M_freePlace_28 K N a0 s t) (fun v4 s1 t2 => (px_bi (f_M_ofInode_28 K N a0 (1 : Int32) s1 t2) (fun v9 s6 t7 => (if ¬ v4 = v9 then (px_bi (f_M_blockOf_28 K N a0 (v4 / (8 : Int32)) s6 t7) (fun v15 s12 t13 => (px_bv (f_M_tell_28 K N v15 ((2 : Int32) * (v4 - v4 / (8 : Int32) * (8 : Int32))) a1 s12 t13) (fun s17 t18 => (px_bi (f_M_blockOf_28 K N a0 (v4 / (8 : Int32)) s17 t18) (fun v25 s22 t23 => (px_bv (f_M_tell_28 K N v25 (((2 : Int32) * (v4 - v4 / (8 : Int32) * (8 : Int32))) + (1 : Int32)) a2 s22 t23) (fun s27 t28 => (some (.inl none, s27, t28))) (fun x31 s27 t28 => none))) (fun x26 s22 t23 => none))) (fun x21 s17 t18 => none))) (fun x16 s12 t13 => none)) else (px_bi (f_M_takeFor_28 K N a0 (v4 / (8 : Int32)) s6 t7) (fun v35 s32 t33 => (px_bv (f_M_tellInode_28 K N a0 (1 : Int32) (v4 + (8 : Int32)) s32 t33) (fun s37 t38 => (px_bi (f_M_blockOf_28 K N a0 (v4 / (8 : Int32)) s37 t38) (fun v45 s42 t43 => (px_bv (f_M_tell_28 K N v45 ((2 : Int32) * (v4 - v4 / (8 : Int32) * (8 : Int32))) a1 s42 t43) (fun s47 t48 => (px_bi (f_M_blockOf_28 K N a0 (v4 / (8 : Int32)) s47 t48) (fun v55 s52 t53 => (px_bv (f_M_tell_28 K N v55 (((2 : Int32) * (v4 - v4 / (8 : Int32) * (8 : Int32))) + (1 : Int32)) a2 s52 t53) (fun s57 t58 => (some (.inl none, s57, t58))) (fun x61 s57 t58 => none))) (fun x56 s52 t53 => none))) (fun x51 s47 t48 => none))) (fun x46 s42 t43 => none))) (fun x41 s37 t38 => none))) (fun x36 s32 t33 => none)))) (fun x10 s6 t7 => none))) (fun x5 s1 t2 => none))
set_option maxRecDepth 100000 in
theorem e_M_enter_28 (K : px_K) (N : Nat) (a0 : Int32) (a1 : Int32) (a2 : Int32) (s : px_S) (t : px_W) (r : px_Res) (h : f_M_enter_28 K N a0 a1 a2 s t = some r) : px_E px_ET px_P 6 66 0 (px_ent 6 [.ref 28, .int a0, .int a1, .int a2]) [] (px_w K s t) r.1 (px_w K r.2.1 r.2.2) := by
  have hM : px_P[66]? = some pm_M_enter := rfl
  unfold f_M_enter_28 at h
  refine px_blk (i' := 2) (L' := [some (.ref 28), some (.int a0), some (.int a1), some (.int a2), none, none]) (S' := [.int a0, .ref 28]) (w' := px_w K s t) (q := []) 2 hM rfl trivial ?_
  rcases px_bi_some h with ⟨v4, s1, t2, hk3, h⟩ | ⟨x5, s1, t2, hk3, h⟩
  · refine px_E_call hM rfl rfl rfl rfl (px_E_mono (by decide) (e_M_freePlace_28 K N a0 s t _ hk3)) ?_
    refine px_blk (i' := 8) (L' := [some (.ref 28), some (.int a0), some (.int a1), some (.int a2), some (.int v4), none]) (S' := [.int (1 : Int32), .int a0, .ref 28, .int v4]) (w' := px_w K s1 t2) (q := []) 5 hM rfl trivial ?_
    rcases px_bi_some h with ⟨v9, s6, t7, hk8, h⟩ | ⟨x10, s6, t7, hk8, h⟩
    · refine px_E_call hM rfl rfl rfl rfl (px_E_mono (by decide) (e_M_ofInode_28 K N a0 (1 : Int32) s1 t2 _ hk8)) ?_
      refine px_blkif (c := ¬ v4 = v9) (t := 24) (e := 10) (L' := [some (.ref 28), some (.int a0), some (.int a1), some (.int a2), some (.int v4), none]) (S' := []) (w' := px_w K s6 t7) (q := []) 1 hM rfl trivial (fun hc11 => ?_) (fun hc11 => ?_)
      · rw [if_pos hc11] at h
        refine px_blk (i' := 30) (L' := [some (.ref 28), some (.int a0), some (.int a1), some (.int a2), some (.int v4), none]) (S' := [.int (v4 / (8 : Int32)), .int a0, .ref 28, .ref 28]) (w' := px_w K s6 t7) (q := [¬ (8 : Int32) = 0]) 6 hM rfl (show ¬ (8 : Int32) = 0 from (by decide)) ?_
        rcases px_bi_some h with ⟨v15, s12, t13, hk14, h⟩ | ⟨x16, s12, t13, hk14, h⟩
        · refine px_E_call hM rfl rfl rfl rfl (px_E_mono (by decide) (e_M_blockOf_28 K N a0 (v4 / (8 : Int32)) s6 t7 _ hk14)) ?_
          refine px_blk (i' := 37) (L' := [some (.ref 28), some (.int a0), some (.int a1), some (.int a2), some (.int v4), none]) (S' := [.int a1, .int ((2 : Int32) * (v4 - v4 / (8 : Int32) * (8 : Int32))), .int v15, .ref 28]) (w' := px_w K s12 t13) (q := [¬ (8 : Int32) = 0]) 6 hM rfl (show ¬ (8 : Int32) = 0 from (by decide)) ?_
          rcases px_bv_some h with ⟨s17, t18, hk19, h⟩ | ⟨x21, s17, t18, hk19, h⟩
          · refine px_E_call hM rfl rfl rfl rfl (px_E_mono (by decide) (e_M_tell_28 K N v15 ((2 : Int32) * (v4 - v4 / (8 : Int32) * (8 : Int32))) a1 s12 t13 _ hk19)) ?_
            refine px_blk (i' := 44) (L' := [some (.ref 28), some (.int a0), some (.int a1), some (.int a2), some (.int v4), none]) (S' := [.int (v4 / (8 : Int32)), .int a0, .ref 28, .ref 28]) (w' := px_w K s17 t18) (q := [¬ (8 : Int32) = 0]) 6 hM rfl (show ¬ (8 : Int32) = 0 from (by decide)) ?_
            rcases px_bi_some h with ⟨v25, s22, t23, hk24, h⟩ | ⟨x26, s22, t23, hk24, h⟩
            · refine px_E_call hM rfl rfl rfl rfl (px_E_mono (by decide) (e_M_blockOf_28 K N a0 (v4 / (8 : Int32)) s17 t18 _ hk24)) ?_
              refine px_blk (i' := 53) (L' := [some (.ref 28), some (.int a0), some (.int a1), some (.int a2), some (.int v4), none]) (S' := [.int a2, .int (((2 : Int32) * (v4 - v4 / (8 : Int32) * (8 : Int32))) + (1 : Int32)), .int v25, .ref 28]) (w' := px_w K s22 t23) (q := [¬ (8 : Int32) = 0]) 8 hM rfl (show ¬ (8 : Int32) = 0 from (by decide)) ?_
              rcases px_bv_some h with ⟨s27, t28, hk29, h⟩ | ⟨x31, s27, t28, hk29, h⟩
              · refine px_E_call hM rfl rfl rfl rfl (px_E_mono (by decide) (e_M_tell_28 K N v25 (((2 : Int32) * (v4 - v4 / (8 : Int32) * (8 : Int32))) + (1 : Int32)) a2 s22 t23 _ hk29)) ?_
                cases h
                exact px_E_ret hM rfl rfl rfl trivial
              · cases h
            · cases h
          · cases h
        · cases h
      · rw [if_neg hc11] at h
        refine px_blk (i' := 15) (L' := [some (.ref 28), some (.int a0), some (.int a1), some (.int a2), some (.int v4), none]) (S' := [.int (v4 / (8 : Int32)), .int a0, .ref 28]) (w' := px_w K s6 t7) (q := [¬ (8 : Int32) = 0]) 5 hM rfl (show ¬ (8 : Int32) = 0 from (by decide)) ?_
        rcases px_bi_some h with ⟨v35, s32, t33, hk34, h⟩ | ⟨x36, s32, t33, hk34, h⟩
        · refine px_E_call hM rfl rfl rfl rfl (px_E_mono (by decide) (e_M_takeFor_28 K N a0 (v4 / (8 : Int32)) s6 t7 _ hk34)) ?_
          refine px_blk (i' := 23) (L' := [some (.ref 28), some (.int a0), some (.int a1), some (.int a2), some (.int v4), some (.int v35)]) (S' := [.int (v4 + (8 : Int32)), .int (1 : Int32), .int a0, .ref 28]) (w' := px_w K s32 t33) (q := []) 7 hM rfl trivial ?_
          rcases px_bv_some h with ⟨s37, t38, hk39, h⟩ | ⟨x41, s37, t38, hk39, h⟩
          · refine px_E_call hM rfl rfl rfl rfl (px_E_mono (by decide) (e_M_tellInode_28 K N a0 (1 : Int32) (v4 + (8 : Int32)) s32 t33 _ hk39)) ?_
            refine px_blk (i' := 30) (L' := [some (.ref 28), some (.int a0), some (.int a1), some (.int a2), some (.int v4), some (.int v35)]) (S' := [.int (v4 / (8 : Int32)), .int a0, .ref 28, .ref 28]) (w' := px_w K s37 t38) (q := [¬ (8 : Int32) = 0]) 6 hM rfl (show ¬ (8 : Int32) = 0 from (by decide)) ?_
            rcases px_bi_some h with ⟨v45, s42, t43, hk44, h⟩ | ⟨x46, s42, t43, hk44, h⟩
            · refine px_E_call hM rfl rfl rfl rfl (px_E_mono (by decide) (e_M_blockOf_28 K N a0 (v4 / (8 : Int32)) s37 t38 _ hk44)) ?_
              refine px_blk (i' := 37) (L' := [some (.ref 28), some (.int a0), some (.int a1), some (.int a2), some (.int v4), some (.int v35)]) (S' := [.int a1, .int ((2 : Int32) * (v4 - v4 / (8 : Int32) * (8 : Int32))), .int v45, .ref 28]) (w' := px_w K s42 t43) (q := [¬ (8 : Int32) = 0]) 6 hM rfl (show ¬ (8 : Int32) = 0 from (by decide)) ?_
              rcases px_bv_some h with ⟨s47, t48, hk49, h⟩ | ⟨x51, s47, t48, hk49, h⟩
              · refine px_E_call hM rfl rfl rfl rfl (px_E_mono (by decide) (e_M_tell_28 K N v45 ((2 : Int32) * (v4 - v4 / (8 : Int32) * (8 : Int32))) a1 s42 t43 _ hk49)) ?_
                refine px_blk (i' := 44) (L' := [some (.ref 28), some (.int a0), some (.int a1), some (.int a2), some (.int v4), some (.int v35)]) (S' := [.int (v4 / (8 : Int32)), .int a0, .ref 28, .ref 28]) (w' := px_w K s47 t48) (q := [¬ (8 : Int32) = 0]) 6 hM rfl (show ¬ (8 : Int32) = 0 from (by decide)) ?_
                rcases px_bi_some h with ⟨v55, s52, t53, hk54, h⟩ | ⟨x56, s52, t53, hk54, h⟩
                · refine px_E_call hM rfl rfl rfl rfl (px_E_mono (by decide) (e_M_blockOf_28 K N a0 (v4 / (8 : Int32)) s47 t48 _ hk54)) ?_
                  refine px_blk (i' := 53) (L' := [some (.ref 28), some (.int a0), some (.int a1), some (.int a2), some (.int v4), some (.int v35)]) (S' := [.int a2, .int (((2 : Int32) * (v4 - v4 / (8 : Int32) * (8 : Int32))) + (1 : Int32)), .int v55, .ref 28]) (w' := px_w K s52 t53) (q := [¬ (8 : Int32) = 0]) 8 hM rfl (show ¬ (8 : Int32) = 0 from (by decide)) ?_
                  rcases px_bv_some h with ⟨s57, t58, hk59, h⟩ | ⟨x61, s57, t58, hk59, h⟩
                  · refine px_E_call hM rfl rfl rfl rfl (px_E_mono (by decide) (e_M_tell_28 K N v55 (((2 : Int32) * (v4 - v4 / (8 : Int32) * (8 : Int32))) + (1 : Int32)) a2 s52 t53 _ hk59)) ?_
                    cases h
                    exact px_E_ret hM rfl rfl rfl trivial
                  · cases h
                · cases h
              · cases h
            · cases h
          · cases h
        · cases h
    · cases h
  · cases h
noncomputable def f_M_leave_28 (K : px_K) (N : Nat) (a0 : Int32) (a1 : Int32) (s : px_S) (t : px_W) : Option px_Res :=
  (px_bi (f_M_blockOf_28 K N a0 (a1 / (8 : Int32)) s t) (fun v4 s1 t2 => (px_bv (f_M_tell_28 K N v4 ((2 : Int32) * (a1 - a1 / (8 : Int32) * (8 : Int32))) (0 : Int32) s1 t2) (fun s6 t7 => (px_bi (f_M_blockOf_28 K N a0 (a1 / (8 : Int32)) s6 t7) (fun v14 s11 t12 => (px_bv (f_M_tell_28 K N v14 (((2 : Int32) * (a1 - a1 / (8 : Int32) * (8 : Int32))) + (1 : Int32)) (0 : Int32) s11 t12) (fun s16 t17 => (some (.inl none, s16, t17))) (fun x20 s16 t17 => none))) (fun x15 s11 t12 => none))) (fun x10 s6 t7 => none))) (fun x5 s1 t2 => none))
set_option maxRecDepth 100000 in
theorem e_M_leave_28 (K : px_K) (N : Nat) (a0 : Int32) (a1 : Int32) (s : px_S) (t : px_W) (r : px_Res) (h : f_M_leave_28 K N a0 a1 s t = some r) : px_E px_ET px_P 4 67 0 (px_ent 3 [.ref 28, .int a0, .int a1]) [] (px_w K s t) r.1 (px_w K r.2.1 r.2.2) := by
  have hM : px_P[67]? = some pm_M_leave := rfl
  unfold f_M_leave_28 at h
  refine px_blk (i' := 6) (L' := [some (.ref 28), some (.int a0), some (.int a1)]) (S' := [.int (a1 / (8 : Int32)), .int a0, .ref 28, .ref 28]) (w' := px_w K s t) (q := [¬ (8 : Int32) = 0]) 6 hM rfl (show ¬ (8 : Int32) = 0 from (by decide)) ?_
  rcases px_bi_some h with ⟨v4, s1, t2, hk3, h⟩ | ⟨x5, s1, t2, hk3, h⟩
  · refine px_E_call hM rfl rfl rfl rfl (px_E_mono (by decide) (e_M_blockOf_28 K N a0 (a1 / (8 : Int32)) s t _ hk3)) ?_
    refine px_blk (i' := 13) (L' := [some (.ref 28), some (.int a0), some (.int a1)]) (S' := [.int (0 : Int32), .int ((2 : Int32) * (a1 - a1 / (8 : Int32) * (8 : Int32))), .int v4, .ref 28]) (w' := px_w K s1 t2) (q := [¬ (8 : Int32) = 0]) 6 hM rfl (show ¬ (8 : Int32) = 0 from (by decide)) ?_
    rcases px_bv_some h with ⟨s6, t7, hk8, h⟩ | ⟨x10, s6, t7, hk8, h⟩
    · refine px_E_call hM rfl rfl rfl rfl (px_E_mono (by decide) (e_M_tell_28 K N v4 ((2 : Int32) * (a1 - a1 / (8 : Int32) * (8 : Int32))) (0 : Int32) s1 t2 _ hk8)) ?_
      refine px_blk (i' := 20) (L' := [some (.ref 28), some (.int a0), some (.int a1)]) (S' := [.int (a1 / (8 : Int32)), .int a0, .ref 28, .ref 28]) (w' := px_w K s6 t7) (q := [¬ (8 : Int32) = 0]) 6 hM rfl (show ¬ (8 : Int32) = 0 from (by decide)) ?_
      rcases px_bi_some h with ⟨v14, s11, t12, hk13, h⟩ | ⟨x15, s11, t12, hk13, h⟩
      · refine px_E_call hM rfl rfl rfl rfl (px_E_mono (by decide) (e_M_blockOf_28 K N a0 (a1 / (8 : Int32)) s6 t7 _ hk13)) ?_
        refine px_blk (i' := 29) (L' := [some (.ref 28), some (.int a0), some (.int a1)]) (S' := [.int (0 : Int32), .int (((2 : Int32) * (a1 - a1 / (8 : Int32) * (8 : Int32))) + (1 : Int32)), .int v14, .ref 28]) (w' := px_w K s11 t12) (q := [¬ (8 : Int32) = 0]) 8 hM rfl (show ¬ (8 : Int32) = 0 from (by decide)) ?_
        rcases px_bv_some h with ⟨s16, t17, hk18, h⟩ | ⟨x20, s16, t17, hk18, h⟩
        · refine px_E_call hM rfl rfl rfl rfl (px_E_mono (by decide) (e_M_tell_28 K N v14 (((2 : Int32) * (a1 - a1 / (8 : Int32) * (8 : Int32))) + (1 : Int32)) (0 : Int32) s11 t12 _ hk18)) ?_
          cases h
          exact px_E_ret hM rfl rfl rfl trivial
        · cases h
      · cases h
    · cases h
  · cases h
noncomputable def l_M_names_28_4 (K : px_K) (N : Nat) (n : Nat) (u1 : Int32) (m2 : Int32) (m3 : Int32) (s : px_S) (t : px_W) : Option px_LO := match n with
  | 0 => none
  | n + 1 => (px_bi (f_M_ofInode_28 K N u1 (1 : Int32) s t) (fun v4 s1 t2 => (if v4 ≤ m3 then (some (.inl (23, [m2], s1, t2))) else (px_bi (f_M_nameAt_28 K N u1 m3 s1 t2) (fun v10 s7 t8 => (px_let (m2 + (if v10 = 0 then (0 : Int32) else (1 : Int32))) (fun v12 => (l_M_names_28_4 K N n u1 v12 (m3 + (1 : Int32)) s7 t8)))) (fun x11 s7 t8 => none)))) (fun x5 s1 t2 => none))
def a_l_M_names_28_4 (K : px_K) (u1 : Int32) (z : px_LO) (o : Option Value ⊕ Nat) (w2 : px_W) : Prop := match z with
  | .inr (o', s', t') => o = o' ∧ w2 = px_w K s' t'
  | .inl (23, [y2], s', t') => px_E px_ET px_P 5 68 23 [none, none, some (.int y2), none] [] (px_w K s' t') o w2
  | _ => False
set_option maxRecDepth 100000 in
theorem e_l_M_names_28_4 (K : px_K) (N : Nat) (u1 : Int32) : ∀ (n : Nat) (m2 : Int32) (m3 : Int32) (s : px_S) (t : px_W) (z : px_LO), l_M_names_28_4 K N n u1 m2 m3 s t = some z → ∀ (o : Option Value ⊕ Nat) (w2 : px_W), a_l_M_names_28_4 K u1 z o w2 → px_E px_ET px_P 5 68 4 [some (.ref 28), some (.int u1), some (.int m2), some (.int m3)] [] (px_w K s t) o w2 := by
  have hM : px_P[68]? = some pm_M_names := rfl
  intro n
  induction n with
  | zero => intro m2 m3 s t z h; cases h
  | succ n ih =>
    intro m2 m3 s t z h o w2 ha
    unfold l_M_names_28_4 at h
    refine px_blk (i' := 8) (L' := [some (.ref 28), some (.int u1), some (.int m2), some (.int m3)]) (S' := [.int (1 : Int32), .int u1, .ref 28, .int m3]) (w' := px_w K s t) (q := []) 4 hM rfl trivial ?_
    rcases px_bi_some h with ⟨v4, s1, t2, hk3, h⟩ | ⟨x5, s1, t2, hk3, h⟩
    · refine px_E_call hM rfl rfl rfl rfl (px_E_mono (by decide) (e_M_ofInode_28 K N u1 (1 : Int32) s t _ hk3)) ?_
      refine px_blkif (c := v4 ≤ m3) (t := 23) (e := 10) (L' := [some (.ref 28), some (.int u1), some (.int m2), some (.int m3)]) (S' := []) (w' := px_w K s1 t2) (q := []) 1 hM rfl trivial (fun hc6 => ?_) (fun hc6 => ?_)
      · rw [if_pos hc6] at h
        cases h
        exact px_E_le (px_leC_L _ _ (by simp [px_leC, px_le1, Value.category])) ha
      · rw [if_neg hc6] at h
        refine px_blk (i' := 14) (L' := [some (.ref 28), some (.int u1), some (.int m2), some (.int m3)]) (S' := [.int m3, .int u1, .ref 28, .int m2]) (w' := px_w K s1 t2) (q := []) 4 hM rfl trivial ?_
        rcases px_bi_some h with ⟨v10, s7, t8, hk9, h⟩ | ⟨x11, s7, t8, hk9, h⟩
        · refine px_E_call hM rfl rfl rfl rfl (px_E_mono (by decide) (e_M_nameAt_28 K N u1 m3 s1 t2 _ hk9)) ?_
          have hK : px_E px_ET px_P 5 68 19 [some (.ref 28), some (.int u1), some (.int m2), some (.int m3)] [.int (if v10 = 0 then (0 : Int32) else (1 : Int32)), .int m2] (px_w K s7 t8) o w2 := by
            refine px_blk (i' := 21) (L' := [some (.ref 28), some (.int u1), some (.int (m2 + (if v10 = 0 then (0 : Int32) else (1 : Int32)))), some (.int m3)]) (S' := []) (w' := px_w K s7 t8) (q := []) 2 hM rfl trivial ?_
            obtain ⟨v12, hv13, h⟩ := px_let_some h
            rw [← hv13]
            refine px_blk (i' := 4) (L' := [some (.ref 28), some (.int u1), some (.int v12), some (.int (m3 + (1 : Int32)))]) (S' := []) (w' := px_w K s7 t8) (q := []) 2 hM rfl trivial ?_
            exact ih v12 (m3 + (1 : Int32)) s7 t8 z h o w2 ha
          clear h
          refine px_blkif (c := v10 = 0) (t := 18) (e := 16) (L' := [some (.ref 28), some (.int u1), some (.int m2), some (.int m3)]) (S' := [.int m2]) (w' := px_w K s7 t8) (q := []) 1 hM rfl trivial (fun hc14 => ?_) (fun hc14 => ?_)
          · rw [if_pos hc14] at hK
            exact px_blk (i' := 19) (L' := [some (.ref 28), some (.int u1), some (.int m2), some (.int m3)]) (S' := [.int (0 : Int32), .int m2]) (w' := px_w K s7 t8) (q := []) 1 hM rfl trivial hK
          · rw [if_neg hc14] at hK
            exact px_blk (i' := 19) (L' := [some (.ref 28), some (.int u1), some (.int m2), some (.int m3)]) (S' := [.int (1 : Int32), .int m2]) (w' := px_w K s7 t8) (q := []) 2 hM rfl trivial hK
        · cases h
    · cases h
noncomputable def f_M_names_28 (K : px_K) (N : Nat) (a0 : Int32) (s : px_S) (t : px_W) : Option px_Res :=
  (px_lp (l_M_names_28_4 K N N a0 (0 : Int32) (0 : Int32) s t) (fun i1 vs2 s3 t4 => (if i1 = 23 then (px_v1 vs2 (fun y7 => (some (.inl (some (.int y7)), s3, t4)))) else none)) (fun z6 => some z6))
set_option maxRecDepth 100000 in
theorem e_M_names_28 (K : px_K) (N : Nat) (a0 : Int32) (s : px_S) (t : px_W) (r : px_Res) (h : f_M_names_28 K N a0 s t = some r) : px_E px_ET px_P 5 68 0 (px_ent 4 [.ref 28, .int a0]) [] (px_w K s t) r.1 (px_w K r.2.1 r.2.2) := by
  have hM : px_P[68]? = some pm_M_names := rfl
  unfold f_M_names_28 at h
  refine px_blk (i' := 4) (L' := [some (.ref 28), some (.int a0), some (.int (0 : Int32)), some (.int (0 : Int32))]) (S' := []) (w' := px_w K s t) (q := []) 4 hM rfl trivial ?_
  rcases px_lp_some h with ⟨i1, vs2, s3, t4, hl5, h⟩ | ⟨z6, hl5, h⟩
  · by_cases hi8 : i1 = 23
    · subst hi8
      rw [if_pos rfl] at h
      have h9 := px_v1_some h
      clear h
      obtain ⟨y7, rfl, h⟩ := h9
      refine e_l_M_names_28_4 K N a0 N (0 : Int32) (0 : Int32) s t _ hl5 _ _ ?_
      show px_E px_ET px_P 5 68 23 [none, none, some (.int y7), none] [] (px_w K s3 t4) _ _
      refine px_blk (i' := 24) (L' := [none, none, some (.int y7), none]) (S' := [.int y7]) (w' := px_w K s3 t4) (q := []) 1 hM rfl trivial ?_
      cases h
      exact px_E_ret hM rfl rfl rfl trivial
    · rw [if_neg hi8] at h
      cases h
  · cases h
    exact e_l_M_names_28_4 K N a0 N (0 : Int32) (0 : Int32) s t _ hl5 _ _ ⟨rfl, rfl⟩
noncomputable def l_M_changes_28_4 (K : px_K) (N : Nat) (n : Nat) (m1 : Int32) (m2 : Int32) (s : px_S) (t : px_W) : Option px_LO := match n with
  | 0 => none
  | n + 1 => (if (106 : Int32) ≤ m2 then (some (.inl (20, [m1], s, t))) else (px_gd (vp_in m2 (K.2.2 41)) (px_let (m1 + (if ((s.2.2.1 41) m2.toNatClampNeg) = 0 then (0 : Int32) else (1 : Int32))) (fun v3 => (l_M_changes_28_4 K N n v3 (m2 + (1 : Int32)) s t)))))
def a_l_M_changes_28_4 (K : px_K) (z : px_LO) (o : Option Value ⊕ Nat) (w2 : px_W) : Prop := match z with
  | .inr (o', s', t') => o = o' ∧ w2 = px_w K s' t'
  | .inl (20, [y1], s', t') => px_E px_ET px_P 1 69 20 [none, some (.int y1), none] [] (px_w K s' t') o w2
  | _ => False
set_option maxRecDepth 100000 in
theorem e_l_M_changes_28_4 (K : px_K) (N : Nat) : ∀ (n : Nat) (m1 : Int32) (m2 : Int32) (s : px_S) (t : px_W) (z : px_LO), l_M_changes_28_4 K N n m1 m2 s t = some z → ∀ (o : Option Value ⊕ Nat) (w2 : px_W), a_l_M_changes_28_4 K z o w2 → px_E px_ET px_P 1 69 4 [some (.ref 28), some (.int m1), some (.int m2)] [] (px_w K s t) o w2 := by
  have hM : px_P[69]? = some pm_M_changes := rfl
  intro n
  induction n with
  | zero => intro m1 m2 s t z h; cases h
  | succ n ih =>
    intro m1 m2 s t z h o w2 ha
    unfold l_M_changes_28_4 at h
    refine px_blkif (c := (106 : Int32) ≤ m2) (t := 20) (e := 7) (L' := [some (.ref 28), some (.int m1), some (.int m2)]) (S' := []) (w' := px_w K s t) (q := []) 3 hM rfl trivial (fun hc1 => ?_) (fun hc1 => ?_)
    · rw [if_pos hc1] at h
      cases h
      exact px_E_le (px_leC_L _ _ (by simp [px_leC, px_le1, Value.category])) ha
    · rw [if_neg hc1] at h
      obtain ⟨hq2, h⟩ := px_gd_some h
      refine px_blk (i' := 12) (L' := [some (.ref 28), some (.int m1), some (.int m2)]) (S' := [.int ((s.2.2.1 41) m2.toNatClampNeg), .int m1]) (w' := px_w K s t) (q := [vp_in m2 (K.2.2 41)]) 5 hM rfl (show vp_in m2 (K.2.2 41) from hq2) ?_
      have hK : px_E px_ET px_P 1 69 16 [some (.ref 28), some (.int m1), some (.int m2)] [.int (if ((s.2.2.1 41) m2.toNatClampNeg) = 0 then (0 : Int32) else (1 : Int32)), .int m1] (px_w K s t) o w2 := by
        refine px_blk (i' := 18) (L' := [some (.ref 28), some (.int (m1 + (if ((s.2.2.1 41) m2.toNatClampNeg) = 0 then (0 : Int32) else (1 : Int32)))), some (.int m2)]) (S' := []) (w' := px_w K s t) (q := []) 2 hM rfl trivial ?_
        obtain ⟨v3, hv4, h⟩ := px_let_some h
        rw [← hv4]
        refine px_blk (i' := 4) (L' := [some (.ref 28), some (.int v3), some (.int (m2 + (1 : Int32)))]) (S' := []) (w' := px_w K s t) (q := []) 2 hM rfl trivial ?_
        exact ih v3 (m2 + (1 : Int32)) s t z h o w2 ha
      clear h
      refine px_blkif (c := ((s.2.2.1 41) m2.toNatClampNeg) = 0) (t := 15) (e := 13) (L' := [some (.ref 28), some (.int m1), some (.int m2)]) (S' := [.int m1]) (w' := px_w K s t) (q := []) 1 hM rfl trivial (fun hc5 => ?_) (fun hc5 => ?_)
      · rw [if_pos hc5] at hK
        exact px_blk (i' := 16) (L' := [some (.ref 28), some (.int m1), some (.int m2)]) (S' := [.int (0 : Int32), .int m1]) (w' := px_w K s t) (q := []) 1 hM rfl trivial hK
      · rw [if_neg hc5] at hK
        exact px_blk (i' := 16) (L' := [some (.ref 28), some (.int m1), some (.int m2)]) (S' := [.int (1 : Int32), .int m1]) (w' := px_w K s t) (q := []) 2 hM rfl trivial hK
noncomputable def f_M_changes_28 (K : px_K) (N : Nat) (s : px_S) (t : px_W) : Option px_Res :=
  (px_lp (l_M_changes_28_4 K N N (0 : Int32) (0 : Int32) s t) (fun i1 vs2 s3 t4 => (if i1 = 20 then (px_v1 vs2 (fun y7 => (some (.inl (some (.int y7)), s3, t4)))) else none)) (fun z6 => some z6))
set_option maxRecDepth 100000 in
theorem e_M_changes_28 (K : px_K) (N : Nat) (s : px_S) (t : px_W) (r : px_Res) (h : f_M_changes_28 K N s t = some r) : px_E px_ET px_P 1 69 0 (px_ent 3 [.ref 28]) [] (px_w K s t) r.1 (px_w K r.2.1 r.2.2) := by
  have hM : px_P[69]? = some pm_M_changes := rfl
  unfold f_M_changes_28 at h
  refine px_blk (i' := 4) (L' := [some (.ref 28), some (.int (0 : Int32)), some (.int (0 : Int32))]) (S' := []) (w' := px_w K s t) (q := []) 4 hM rfl trivial ?_
  rcases px_lp_some h with ⟨i1, vs2, s3, t4, hl5, h⟩ | ⟨z6, hl5, h⟩
  · by_cases hi8 : i1 = 20
    · subst hi8
      rw [if_pos rfl] at h
      have h9 := px_v1_some h
      clear h
      obtain ⟨y7, rfl, h⟩ := h9
      refine e_l_M_changes_28_4 K N N (0 : Int32) (0 : Int32) s t _ hl5 _ _ ?_
      show px_E px_ET px_P 1 69 20 [none, some (.int y7), none] [] (px_w K s3 t4) _ _
      refine px_blk (i' := 21) (L' := [none, some (.int y7), none]) (S' := [.int y7]) (w' := px_w K s3 t4) (q := []) 1 hM rfl trivial ?_
      cases h
      exact px_E_ret hM rfl rfl rfl trivial
    · rw [if_neg hi8] at h
      cases h
  · cases h
    exact e_l_M_changes_28_4 K N N (0 : Int32) (0 : Int32) s t _ hl5 _ _ ⟨rfl, rfl⟩
noncomputable def l_M_keeps_28_4 (K : px_K) (N : Nat) (n : Nat) (m1 : Int32) (m2 : Int32) (s : px_S) (t : px_W) : Option px_LO := match n with
  | 0 => none
  | n + 1 => (if (106 : Int32) ≤ m2 then (some (.inl (20, [m1], s, t))) else (px_gd (vp_in m2 (K.2.2 42)) (px_let (m1 + (if ((s.2.2.1 42) m2.toNatClampNeg) = 0 then (0 : Int32) else (1 : Int32))) (fun v3 => (l_M_keeps_28_4 K N n v3 (m2 + (1 : Int32)) s t)))))
def a_l_M_keeps_28_4 (K : px_K) (z : px_LO) (o : Option Value ⊕ Nat) (w2 : px_W) : Prop := match z with
  | .inr (o', s', t') => o = o' ∧ w2 = px_w K s' t'
  | .inl (20, [y1], s', t') => px_E px_ET px_P 1 70 20 [none, some (.int y1), none] [] (px_w K s' t') o w2
  | _ => False
set_option maxRecDepth 100000 in
theorem e_l_M_keeps_28_4 (K : px_K) (N : Nat) : ∀ (n : Nat) (m1 : Int32) (m2 : Int32) (s : px_S) (t : px_W) (z : px_LO), l_M_keeps_28_4 K N n m1 m2 s t = some z → ∀ (o : Option Value ⊕ Nat) (w2 : px_W), a_l_M_keeps_28_4 K z o w2 → px_E px_ET px_P 1 70 4 [some (.ref 28), some (.int m1), some (.int m2)] [] (px_w K s t) o w2 := by
  have hM : px_P[70]? = some pm_M_keeps := rfl
  intro n
  induction n with
  | zero => intro m1 m2 s t z h; cases h
  | succ n ih =>
    intro m1 m2 s t z h o w2 ha
    unfold l_M_keeps_28_4 at h
    refine px_blkif (c := (106 : Int32) ≤ m2) (t := 20) (e := 7) (L' := [some (.ref 28), some (.int m1), some (.int m2)]) (S' := []) (w' := px_w K s t) (q := []) 3 hM rfl trivial (fun hc1 => ?_) (fun hc1 => ?_)
    · rw [if_pos hc1] at h
      cases h
      exact px_E_le (px_leC_L _ _ (by simp [px_leC, px_le1, Value.category])) ha
    · rw [if_neg hc1] at h
      obtain ⟨hq2, h⟩ := px_gd_some h
      refine px_blk (i' := 12) (L' := [some (.ref 28), some (.int m1), some (.int m2)]) (S' := [.int ((s.2.2.1 42) m2.toNatClampNeg), .int m1]) (w' := px_w K s t) (q := [vp_in m2 (K.2.2 42)]) 5 hM rfl (show vp_in m2 (K.2.2 42) from hq2) ?_
      have hK : px_E px_ET px_P 1 70 16 [some (.ref 28), some (.int m1), some (.int m2)] [.int (if ((s.2.2.1 42) m2.toNatClampNeg) = 0 then (0 : Int32) else (1 : Int32)), .int m1] (px_w K s t) o w2 := by
        refine px_blk (i' := 18) (L' := [some (.ref 28), some (.int (m1 + (if ((s.2.2.1 42) m2.toNatClampNeg) = 0 then (0 : Int32) else (1 : Int32)))), some (.int m2)]) (S' := []) (w' := px_w K s t) (q := []) 2 hM rfl trivial ?_
        obtain ⟨v3, hv4, h⟩ := px_let_some h
        rw [← hv4]
        refine px_blk (i' := 4) (L' := [some (.ref 28), some (.int v3), some (.int (m2 + (1 : Int32)))]) (S' := []) (w' := px_w K s t) (q := []) 2 hM rfl trivial ?_
        exact ih v3 (m2 + (1 : Int32)) s t z h o w2 ha
      clear h
      refine px_blkif (c := ((s.2.2.1 42) m2.toNatClampNeg) = 0) (t := 15) (e := 13) (L' := [some (.ref 28), some (.int m1), some (.int m2)]) (S' := [.int m1]) (w' := px_w K s t) (q := []) 1 hM rfl trivial (fun hc5 => ?_) (fun hc5 => ?_)
      · rw [if_pos hc5] at hK
        exact px_blk (i' := 16) (L' := [some (.ref 28), some (.int m1), some (.int m2)]) (S' := [.int (0 : Int32), .int m1]) (w' := px_w K s t) (q := []) 1 hM rfl trivial hK
      · rw [if_neg hc5] at hK
        exact px_blk (i' := 16) (L' := [some (.ref 28), some (.int m1), some (.int m2)]) (S' := [.int (1 : Int32), .int m1]) (w' := px_w K s t) (q := []) 2 hM rfl trivial hK
noncomputable def f_M_keeps_28 (K : px_K) (N : Nat) (s : px_S) (t : px_W) : Option px_Res :=
  (px_lp (l_M_keeps_28_4 K N N (0 : Int32) (0 : Int32) s t) (fun i1 vs2 s3 t4 => (if i1 = 20 then (px_v1 vs2 (fun y7 => (some (.inl (some (.int y7)), s3, t4)))) else none)) (fun z6 => some z6))
set_option maxRecDepth 100000 in
theorem e_M_keeps_28 (K : px_K) (N : Nat) (s : px_S) (t : px_W) (r : px_Res) (h : f_M_keeps_28 K N s t = some r) : px_E px_ET px_P 1 70 0 (px_ent 3 [.ref 28]) [] (px_w K s t) r.1 (px_w K r.2.1 r.2.2) := by
  have hM : px_P[70]? = some pm_M_keeps := rfl
  unfold f_M_keeps_28 at h
  refine px_blk (i' := 4) (L' := [some (.ref 28), some (.int (0 : Int32)), some (.int (0 : Int32))]) (S' := []) (w' := px_w K s t) (q := []) 4 hM rfl trivial ?_
  rcases px_lp_some h with ⟨i1, vs2, s3, t4, hl5, h⟩ | ⟨z6, hl5, h⟩
  · by_cases hi8 : i1 = 20
    · subst hi8
      rw [if_pos rfl] at h
      have h9 := px_v1_some h
      clear h
      obtain ⟨y7, rfl, h⟩ := h9
      refine e_l_M_keeps_28_4 K N N (0 : Int32) (0 : Int32) s t _ hl5 _ _ ?_
      show px_E px_ET px_P 1 70 20 [none, some (.int y7), none] [] (px_w K s3 t4) _ _
      refine px_blk (i' := 21) (L' := [none, some (.int y7), none]) (S' := [.int y7]) (w' := px_w K s3 t4) (q := []) 1 hM rfl trivial ?_
      cases h
      exact px_E_ret hM rfl rfl rfl trivial
    · rw [if_neg hi8] at h
      cases h
  · cases h
    exact e_l_M_keeps_28_4 K N N (0 : Int32) (0 : Int32) s t _ hl5 _ _ ⟨rfl, rfl⟩
noncomputable def l_M_three_28_44_2 (K : px_K) (N : Nat) (n : Nat) (u2 : Int32) (u3 : Int32) (u4 : Int32) (m5 : Int32) (s : px_S) (t : px_W) : Option px_LO := match n with
  | 0 => none
  | n + 1 => (if (16 : Int32) ≤ m5 then (some (.inl (11, [], s, t))) else (px_gd (vp_in m5 (K.2.2 44)) (px_let (sA s 44 m5.toNatClampNeg (0 : Int32)) (fun s3 => (l_M_three_28_44_2 K N n u2 u3 u4 (m5 + (1 : Int32)) s3 t)))))
def a_l_M_three_28_44_2 (K : px_K) (u2 : Int32) (u3 : Int32) (u4 : Int32) (z : px_LO) (o : Option Value ⊕ Nat) (w2 : px_W) : Prop := match z with
  | .inr (o', s', t') => o = o' ∧ w2 = px_w K s' t'
  | .inl (11, [], s', t') => px_E px_ET px_P 1 33 11 [none, some (.ref 44), some (.int u2), some (.int u3), some (.int u4), none] [] (px_w K s' t') o w2
  | _ => False
set_option maxRecDepth 100000 in
theorem e_l_M_three_28_44_2 (K : px_K) (N : Nat) (u2 : Int32) (u3 : Int32) (u4 : Int32) : ∀ (n : Nat) (m5 : Int32) (s : px_S) (t : px_W) (z : px_LO), l_M_three_28_44_2 K N n u2 u3 u4 m5 s t = some z → ∀ (o : Option Value ⊕ Nat) (w2 : px_W), a_l_M_three_28_44_2 K u2 u3 u4 z o w2 → px_E px_ET px_P 1 33 2 [none, some (.ref 44), some (.int u2), some (.int u3), some (.int u4), some (.int m5)] [] (px_w K s t) o w2 := by
  have hM : px_P[33]? = some pm_M_three := rfl
  intro n
  induction n with
  | zero => intro m5 s t z h; cases h
  | succ n ih =>
    intro m5 s t z h o w2 ha
    unfold l_M_three_28_44_2 at h
    refine px_blkif (c := (16 : Int32) ≤ m5) (t := 11) (e := 5) (L' := [none, some (.ref 44), some (.int u2), some (.int u3), some (.int u4), some (.int m5)]) (S' := []) (w' := px_w K s t) (q := []) 3 hM rfl trivial (fun hc1 => ?_) (fun hc1 => ?_)
    · rw [if_pos hc1] at h
      cases h
      exact px_E_le (px_leC_L _ _ (by simp [px_leC, px_le1, Value.category])) ha
    · rw [if_neg hc1] at h
      obtain ⟨hq2, h⟩ := px_gd_some h
      refine px_blk (i' := 9) (L' := [none, some (.ref 44), some (.int u2), some (.int u3), some (.int u4), some (.int m5)]) (S' := []) (w' := px_w K (sA s 44 m5.toNatClampNeg (0 : Int32)) t) (q := [vp_in m5 (K.2.2 44)]) 4 hM rfl (show vp_in m5 (K.2.2 44) from hq2) ?_
      obtain ⟨s3, hs4, h⟩ := px_let_some h
      rw [← hs4]
      refine px_blk (i' := 2) (L' := [none, some (.ref 44), some (.int u2), some (.int u3), some (.int u4), some (.int (m5 + (1 : Int32)))]) (S' := []) (w' := px_w K s3 t) (q := []) 2 hM rfl trivial ?_
      exact ih (m5 + (1 : Int32)) s3 t z h o w2 ha
noncomputable def f_M_three_28_44 (K : px_K) (N : Nat) (a0 : Int32) (a1 : Int32) (a2 : Int32) (s : px_S) (t : px_W) : Option px_Res :=
  (px_lp (l_M_three_28_44_2 K N N a0 a1 a2 (3 : Int32) s t) (fun i1 vs2 s3 t4 => (if i1 = 11 then (px_v0 vs2 (px_gd (vp_in (0 : Int32) (K.2.2 44)) (px_let (sA s3 44 (0 : Int32).toNatClampNeg a0) (fun s9 => (px_gd (vp_in (1 : Int32) (K.2.2 44)) (px_let (sA s9 44 (1 : Int32).toNatClampNeg a1) (fun s12 => (px_gd (vp_in (2 : Int32) (K.2.2 44)) (px_let (sA s12 44 (2 : Int32).toNatClampNeg a2) (fun s15 => (some (.inl none, s15, t4)))))))))))) else none)) (fun z6 => some z6))
set_option maxRecDepth 100000 in
theorem e_M_three_28_44 (K : px_K) (N : Nat) (a0 : Int32) (a1 : Int32) (a2 : Int32) (s : px_S) (t : px_W) (r : px_Res) (h : f_M_three_28_44 K N a0 a1 a2 s t = some r) : px_E px_ET px_P 1 33 0 (px_ent 6 [.ref 28, .ref 44, .int a0, .int a1, .int a2]) [] (px_w K s t) r.1 (px_w K r.2.1 r.2.2) := by
  have hM : px_P[33]? = some pm_M_three := rfl
  unfold f_M_three_28_44 at h
  refine px_blk (i' := 2) (L' := [some (.ref 28), some (.ref 44), some (.int a0), some (.int a1), some (.int a2), some (.int (3 : Int32))]) (S' := []) (w' := px_w K s t) (q := []) 2 hM rfl trivial ?_
  rcases px_lp_some h with ⟨i1, vs2, s3, t4, hl5, h⟩ | ⟨z6, hl5, h⟩
  · by_cases hi7 : i1 = 11
    · subst hi7
      rw [if_pos rfl] at h
      have h9 := px_v0_some h
      clear h
      obtain ⟨rfl, h⟩ := h9
      refine px_E_le (px_leC_L _ _ (by simp [px_leC, px_le1, Value.category])) (e_l_M_three_28_44_2 K N a0 a1 a2 N (3 : Int32) s t _ hl5 _ _ ?_)
      show px_E px_ET px_P 1 33 11 [none, some (.ref 44), some (.int a0), some (.int a1), some (.int a2), none] [] (px_w K s3 t4) _ _
      obtain ⟨hq8, h⟩ := px_gd_some h
      refine px_blk (i' := 15) (L' := [none, some (.ref 44), some (.int a0), some (.int a1), some (.int a2), none]) (S' := []) (w' := px_w K (sA s3 44 (0 : Int32).toNatClampNeg a0) t4) (q := [vp_in (0 : Int32) (K.2.2 44)]) 4 hM rfl (show vp_in (0 : Int32) (K.2.2 44) from hq8) ?_
      obtain ⟨s9, hs10, h⟩ := px_let_some h
      rw [← hs10]
      obtain ⟨hq11, h⟩ := px_gd_some h
      refine px_blk (i' := 19) (L' := [none, some (.ref 44), some (.int a0), some (.int a1), some (.int a2), none]) (S' := []) (w' := px_w K (sA s9 44 (1 : Int32).toNatClampNeg a1) t4) (q := [vp_in (1 : Int32) (K.2.2 44)]) 4 hM rfl (show vp_in (1 : Int32) (K.2.2 44) from hq11) ?_
      obtain ⟨s12, hs13, h⟩ := px_let_some h
      rw [← hs13]
      obtain ⟨hq14, h⟩ := px_gd_some h
      refine px_blk (i' := 23) (L' := [none, some (.ref 44), some (.int a0), some (.int a1), some (.int a2), none]) (S' := []) (w' := px_w K (sA s12 44 (2 : Int32).toNatClampNeg a2) t4) (q := [vp_in (2 : Int32) (K.2.2 44)]) 4 hM rfl (show vp_in (2 : Int32) (K.2.2 44) from hq14) ?_
      obtain ⟨s15, hs16, h⟩ := px_let_some h
      rw [← hs16]
      cases h
      exact px_E_ret hM rfl rfl rfl trivial
    · rw [if_neg hi7] at h
      cases h
  · cases h
    exact px_E_le (px_leC_L _ _ (by simp [px_leC, px_le1, Value.category])) (e_l_M_three_28_44_2 K N a0 a1 a2 N (3 : Int32) s t _ hl5 _ _ ⟨rfl, rfl⟩)
noncomputable def f_M_isEscaped (K : px_K) (N : Nat) (a0 : Int32) (s : px_S) (t : px_W) : Option px_Res :=
  (px_gd ((if a0 = (1 : Int32) then (1 : Int32) else (if ¬ a0 = (2 : Int32) then (0 : Int32) else (1 : Int32))) = 0 ∨ (if a0 = (1 : Int32) then (1 : Int32) else (if ¬ a0 = (2 : Int32) then (0 : Int32) else (1 : Int32))) = 1) (some (.inl (some (.int (if a0 = (1 : Int32) then (1 : Int32) else (if ¬ a0 = (2 : Int32) then (0 : Int32) else (1 : Int32))))), s, t)))
set_option maxRecDepth 100000 in
theorem e_M_isEscaped (K : px_K) (N : Nat) (a0 : Int32) (s : px_S) (t : px_W) (r : px_Res) (h : f_M_isEscaped K N a0 s t = some r) : px_E px_ET px_P 1 71 0 (px_ent 1 [.int a0]) [] (px_w K s t) r.1 (px_w K r.2.1 r.2.2) := by
  have hM : px_P[71]? = some pm_M_isEscaped := rfl
  unfold f_M_isEscaped at h
  refine px_blk (i' := 2) (L' := [some (.int a0)]) (S' := [.int (1 : Int32), .int a0]) (w' := px_w K s t) (q := []) 2 hM rfl trivial ?_
  have hK : px_E px_ET px_P 1 71 9 [some (.int a0)] [.int (if a0 = (1 : Int32) then (1 : Int32) else (if ¬ a0 = (2 : Int32) then (0 : Int32) else (1 : Int32)))] (px_w K s t) r.1 (px_w K r.2.1 r.2.2) := by
    obtain ⟨hq1, h⟩ := px_gd_some h
    cases h
    exact px_E_ret hM rfl rfl rfl (show (if a0 = (1 : Int32) then (1 : Int32) else (if ¬ a0 = (2 : Int32) then (0 : Int32) else (1 : Int32))) = 0 ∨ (if a0 = (1 : Int32) then (1 : Int32) else (if ¬ a0 = (2 : Int32) then (0 : Int32) else (1 : Int32))) = 1 from hq1)
  clear h
  refine px_blkif (c := a0 = (1 : Int32)) (t := 6) (e := 3) (L' := [some (.int a0)]) (S' := []) (w' := px_w K s t) (q := []) 1 hM rfl trivial (fun hc2 => ?_) (fun hc2 => ?_)
  · rw [if_pos hc2] at hK
    exact px_blk (i' := 9) (L' := [some (.int a0)]) (S' := [.int (1 : Int32)]) (w' := px_w K s t) (q := []) 2 hM rfl trivial hK
  · rw [if_neg hc2] at hK
    refine px_blkif (c := ¬ a0 = (2 : Int32)) (t := 8) (e := 6) (L' := [some (.int a0)]) (S' := []) (w' := px_w K s t) (q := []) 3 hM rfl trivial (fun hc3 => ?_) (fun hc3 => ?_)
    · rw [if_pos hc3] at hK
      exact px_blk (i' := 9) (L' := [some (.int a0)]) (S' := [.int (0 : Int32)]) (w' := px_w K s t) (q := []) 1 hM rfl trivial hK
    · rw [if_neg hc3] at hK
      exact px_blk (i' := 9) (L' := [some (.int a0)]) (S' := [.int (1 : Int32)]) (w' := px_w K s t) (q := []) 2 hM rfl trivial hK
noncomputable def l_M_write_28_44_94 (K : px_K) (N : Nat) (n : Nat) (u1 : Int32) (u4 : Int32) (u5 : Int32) (m6 : Int32) (s : px_S) (t : px_W) : Option px_LO := match n with
  | 0 => none
  | n + 1 => (if (16 : Int32) ≤ m6 then (some (.inl (112, [], s, t))) else (px_gd (vp_in (u4 + m6) (K.2.2 44)) (px_gd (vp_in (((16 : Int32) * u5) + m6) (K.2.2 32)) (px_let (sA s 32 (((16 : Int32) * u5) + m6).toNatClampNeg ((s.2.2.1 44) (u4 + m6).toNatClampNeg)) (fun s4 => (l_M_write_28_44_94 K N n u1 u4 u5 (m6 + (1 : Int32)) s4 t))))))
def a_l_M_write_28_44_94 (K : px_K) (u1 : Int32) (u4 : Int32) (u5 : Int32) (z : px_LO) (o : Option Value ⊕ Nat) (w2 : px_W) : Prop := match z with
  | .inr (o', s', t') => o = o' ∧ w2 = px_w K s' t'
  | .inl (112, [], s', t') => px_E px_ET px_P 5 29 112 [some (.ref 28), some (.int u1), none, none, none, none, none] [] (px_w K s' t') o w2
  | _ => False
noncomputable def l_M_write_28_44_28 (K : px_K) (N : Nat) (n : Nat) (u1 : Int32) (u2 : Int32) (u4 : Int32) (u5 : Int32) (m6 : Int32) (s : px_S) (t : px_W) : Option px_LO := match n with
  | 0 => none
  | n + 1 => (if ((u5 + (64 : Int32)) - (1 : Int32)) ≤ m6 then (some (.inl (47, [], s, t))) else (px_gd ((vp_in (m6 + (1 : Int32)) (K.2.2 31)) ∧ (vp_in m6 (K.2.2 31))) (px_let (sA s 31 m6.toNatClampNeg ((s.2.2.1 31) (m6 + (1 : Int32)).toNatClampNeg)) (fun s4 => (l_M_write_28_44_28 K N n u1 u2 u4 u5 (m6 + (1 : Int32)) s4 t)))))
def a_l_M_write_28_44_28 (K : px_K) (u1 : Int32) (u2 : Int32) (u4 : Int32) (u5 : Int32) (z : px_LO) (o : Option Value ⊕ Nat) (w2 : px_W) : Prop := match z with
  | .inr (o', s', t') => o = o' ∧ w2 = px_w K s' t'
  | .inl (47, [], s', t') => px_E px_ET px_P 5 29 47 [some (.ref 28), some (.int u1), some (.int u2), some (.ref 44), some (.int u4), some (.int u5), none] [] (px_w K s' t') o w2
  | _ => False
noncomputable def l_M_write_28_44_51 (K : px_K) (N : Nat) (n : Nat) (u1 : Int32) (u2 : Int32) (u4 : Int32) (u5 : Int32) (m6 : Int32) (s : px_S) (t : px_W) : Option px_LO := match n with
  | 0 => none
  | n + 1 => (if ((16 : Int32) * ((u5 + (64 : Int32)) - (1 : Int32))) ≤ m6 then (some (.inl (72, [], s, t))) else (px_gd ((vp_in (m6 + (16 : Int32)) (K.2.2 32)) ∧ (vp_in m6 (K.2.2 32))) (px_let (sA s 32 m6.toNatClampNeg ((s.2.2.1 32) (m6 + (16 : Int32)).toNatClampNeg)) (fun s4 => (l_M_write_28_44_51 K N n u1 u2 u4 u5 (m6 + (1 : Int32)) s4 t)))))
def a_l_M_write_28_44_51 (K : px_K) (u1 : Int32) (u2 : Int32) (u4 : Int32) (u5 : Int32) (z : px_LO) (o : Option Value ⊕ Nat) (w2 : px_W) : Prop := match z with
  | .inr (o', s', t') => o = o' ∧ w2 = px_w K s' t'
  | .inl (72, [], s', t') => px_E px_ET px_P 5 29 72 [some (.ref 28), some (.int u1), some (.int u2), some (.ref 44), some (.int u4), some (.int u5), none] [] (px_w K s' t') o w2
  | _ => False
set_option maxRecDepth 100000 in
theorem e_l_M_write_28_44_94 (K : px_K) (N : Nat) (u1 : Int32) (u4 : Int32) (u5 : Int32) : ∀ (n : Nat) (m6 : Int32) (s : px_S) (t : px_W) (z : px_LO), l_M_write_28_44_94 K N n u1 u4 u5 m6 s t = some z → ∀ (o : Option Value ⊕ Nat) (w2 : px_W), a_l_M_write_28_44_94 K u1 u4 u5 z o w2 → px_E px_ET px_P 5 29 94 [some (.ref 28), some (.int u1), none, some (.ref 44), some (.int u4), some (.int u5), some (.int m6)] [] (px_w K s t) o w2 := by
  have hM : px_P[29]? = some pm_M_write := rfl
  intro n
  induction n with
  | zero => intro m6 s t z h; cases h
  | succ n ih =>
    intro m6 s t z h o w2 ha
    unfold l_M_write_28_44_94 at h
    refine px_blkif (c := (16 : Int32) ≤ m6) (t := 112) (e := 97) (L' := [some (.ref 28), some (.int u1), none, some (.ref 44), some (.int u4), some (.int u5), some (.int m6)]) (S' := []) (w' := px_w K s t) (q := []) 3 hM rfl trivial (fun hc1 => ?_) (fun hc1 => ?_)
    · rw [if_pos hc1] at h
      cases h
      exact px_E_le (px_leC_L _ _ (by simp [px_leC, px_le1, Value.category])) ha
    · rw [if_neg hc1] at h
      obtain ⟨hq2, h⟩ := px_gd_some h
      refine px_blk (i' := 109) (L' := [some (.ref 28), some (.int u1), none, some (.ref 44), some (.int u4), some (.int u5), some (.int m6)]) (S' := [.int ((s.2.2.1 44) (u4 + m6).toNatClampNeg), .int (((16 : Int32) * u5) + m6), .ref 32]) (w' := px_w K s t) (q := [vp_in (u4 + m6) (K.2.2 44)]) 12 hM rfl (show vp_in (u4 + m6) (K.2.2 44) from hq2) ?_
      obtain ⟨hq3, h⟩ := px_gd_some h
      refine px_blk (i' := 110) (L' := [some (.ref 28), some (.int u1), none, some (.ref 44), some (.int u4), some (.int u5), some (.int m6)]) (S' := []) (w' := px_w K (sA s 32 (((16 : Int32) * u5) + m6).toNatClampNeg ((s.2.2.1 44) (u4 + m6).toNatClampNeg)) t) (q := [vp_in (((16 : Int32) * u5) + m6) (K.2.2 32)]) 1 hM rfl (show vp_in (((16 : Int32) * u5) + m6) (K.2.2 32) from hq3) ?_
      obtain ⟨s4, hs5, h⟩ := px_let_some h
      rw [← hs5]
      refine px_blk (i' := 94) (L' := [some (.ref 28), some (.int u1), none, some (.ref 44), some (.int u4), some (.int u5), some (.int (m6 + (1 : Int32)))]) (S' := []) (w' := px_w K s4 t) (q := []) 2 hM rfl trivial ?_
      exact ih (m6 + (1 : Int32)) s4 t z h o w2 ha
set_option maxRecDepth 100000 in
theorem e_l_M_write_28_44_28 (K : px_K) (N : Nat) (u1 : Int32) (u2 : Int32) (u4 : Int32) (u5 : Int32) : ∀ (n : Nat) (m6 : Int32) (s : px_S) (t : px_W) (z : px_LO), l_M_write_28_44_28 K N n u1 u2 u4 u5 m6 s t = some z → ∀ (o : Option Value ⊕ Nat) (w2 : px_W), a_l_M_write_28_44_28 K u1 u2 u4 u5 z o w2 → px_E px_ET px_P 5 29 28 [some (.ref 28), some (.int u1), some (.int u2), some (.ref 44), some (.int u4), some (.int u5), some (.int m6)] [] (px_w K s t) o w2 := by
  have hM : px_P[29]? = some pm_M_write := rfl
  intro n
  induction n with
  | zero => intro m6 s t z h; cases h
  | succ n ih =>
    intro m6 s t z h o w2 ha
    unfold l_M_write_28_44_28 at h
    refine px_blkif (c := ((u5 + (64 : Int32)) - (1 : Int32)) ≤ m6) (t := 47) (e := 35) (L' := [some (.ref 28), some (.int u1), some (.int u2), some (.ref 44), some (.int u4), some (.int u5), some (.int m6)]) (S' := []) (w' := px_w K s t) (q := []) 7 hM rfl trivial (fun hc1 => ?_) (fun hc1 => ?_)
    · rw [if_pos hc1] at h
      cases h
      exact px_E_le (px_leC_L _ _ (by simp [px_leC, px_le1, Value.category])) ha
    · rw [if_neg hc1] at h
      obtain ⟨⟨hq2, hq3⟩, h⟩ := px_gd_some h
      refine px_blk (i' := 45) (L' := [some (.ref 28), some (.int u1), some (.int u2), some (.ref 44), some (.int u4), some (.int u5), some (.int m6)]) (S' := []) (w' := px_w K (sA s 31 m6.toNatClampNeg ((s.2.2.1 31) (m6 + (1 : Int32)).toNatClampNeg)) t) (q := [vp_in (m6 + (1 : Int32)) (K.2.2 31), vp_in m6 (K.2.2 31)]) 10 hM rfl (show (vp_in (m6 + (1 : Int32)) (K.2.2 31)) ∧ (vp_in m6 (K.2.2 31)) from ⟨hq2, hq3⟩) ?_
      obtain ⟨s4, hs5, h⟩ := px_let_some h
      rw [← hs5]
      refine px_blk (i' := 28) (L' := [some (.ref 28), some (.int u1), some (.int u2), some (.ref 44), some (.int u4), some (.int u5), some (.int (m6 + (1 : Int32)))]) (S' := []) (w' := px_w K s4 t) (q := []) 2 hM rfl trivial ?_
      exact ih (m6 + (1 : Int32)) s4 t z h o w2 ha
set_option maxRecDepth 100000 in
theorem e_l_M_write_28_44_51 (K : px_K) (N : Nat) (u1 : Int32) (u2 : Int32) (u4 : Int32) (u5 : Int32) : ∀ (n : Nat) (m6 : Int32) (s : px_S) (t : px_W) (z : px_LO), l_M_write_28_44_51 K N n u1 u2 u4 u5 m6 s t = some z → ∀ (o : Option Value ⊕ Nat) (w2 : px_W), a_l_M_write_28_44_51 K u1 u2 u4 u5 z o w2 → px_E px_ET px_P 5 29 51 [some (.ref 28), some (.int u1), some (.int u2), some (.ref 44), some (.int u4), some (.int u5), some (.int m6)] [] (px_w K s t) o w2 := by
  have hM : px_P[29]? = some pm_M_write := rfl
  intro n
  induction n with
  | zero => intro m6 s t z h; cases h
  | succ n ih =>
    intro m6 s t z h o w2 ha
    unfold l_M_write_28_44_51 at h
    refine px_blkif (c := ((16 : Int32) * ((u5 + (64 : Int32)) - (1 : Int32))) ≤ m6) (t := 72) (e := 60) (L' := [some (.ref 28), some (.int u1), some (.int u2), some (.ref 44), some (.int u4), some (.int u5), some (.int m6)]) (S' := []) (w' := px_w K s t) (q := []) 9 hM rfl trivial (fun hc1 => ?_) (fun hc1 => ?_)
    · rw [if_pos hc1] at h
      cases h
      exact px_E_le (px_leC_L _ _ (by simp [px_leC, px_le1, Value.category])) ha
    · rw [if_neg hc1] at h
      obtain ⟨⟨hq2, hq3⟩, h⟩ := px_gd_some h
      refine px_blk (i' := 70) (L' := [some (.ref 28), some (.int u1), some (.int u2), some (.ref 44), some (.int u4), some (.int u5), some (.int m6)]) (S' := []) (w' := px_w K (sA s 32 m6.toNatClampNeg ((s.2.2.1 32) (m6 + (16 : Int32)).toNatClampNeg)) t) (q := [vp_in (m6 + (16 : Int32)) (K.2.2 32), vp_in m6 (K.2.2 32)]) 10 hM rfl (show (vp_in (m6 + (16 : Int32)) (K.2.2 32)) ∧ (vp_in m6 (K.2.2 32)) from ⟨hq2, hq3⟩) ?_
      obtain ⟨s4, hs5, h⟩ := px_let_some h
      rw [← hs5]
      refine px_blk (i' := 51) (L' := [some (.ref 28), some (.int u1), some (.int u2), some (.ref 44), some (.int u4), some (.int u5), some (.int (m6 + (1 : Int32)))]) (S' := []) (w' := px_w K s4 t) (q := []) 2 hM rfl trivial ?_
      exact ih (m6 + (1 : Int32)) s4 t z h o w2 ha
noncomputable def f_M_write_28_44 (K : px_K) (N : Nat) (a0 : Int32) (a1 : Int32) (a2 : Int32) (s : px_S) (t : px_W) : Option px_Res :=
  (px_bi (f_M_acts_28 K N s t) (fun v4 s1 t2 => (if ¬ v4 = 0 then (px_gd ((vp_in a0 (K.2.2 33)) ∧ (vp_in a0 (K.2.2 33))) (px_let (sA s1 33 a0.toNatClampNeg (((s1.2.2.1 33) a0.toNatClampNeg) + (1 : Int32))) (fun s9 => (px_let ((64 : Int32) * a0) (fun v11 => (px_gd (vp_in a0 (K.2.2 30)) (if ¬ ((s9.2.2.1 30) a0.toNatClampNeg) = (64 : Int32) then (px_gd (vp_in a0 (K.2.2 30)) (px_let (v11 + ((s9.2.2.1 30) a0.toNatClampNeg)) (fun v16 => (px_gd (vp_in v16 (K.2.2 31)) (px_let (sA s9 31 v16.toNatClampNeg a1) (fun s19 => (px_lp (l_M_write_28_44_94 K N N a0 a2 v16 (0 : Int32) s19 t2) (fun i21 vs22 s23 t24 => (if i21 = 112 then (px_v0 vs22 (px_gd ((vp_in a0 (K.2.2 30)) ∧ (vp_in a0 (K.2.2 30))) (px_let (sA s23 30 a0.toNatClampNeg (((s23.2.2.1 30) a0.toNatClampNeg) + (1 : Int32))) (fun s30 => (some (.inl none, s30, t24)))))) else none)) (fun z26 => some z26)))))))) else (px_bv (f_M_becomesStable_28 K N a0 (0 : Int32) s9 t2) (fun s32 t33 => (px_lp (l_M_write_28_44_28 K N N a0 a1 a2 v11 v11 s32 t33) (fun i37 vs38 s39 t40 => (if i37 = 47 then (px_v0 vs38 (px_let ((16 : Int32) * v11) (fun v44 => (px_lp (l_M_write_28_44_51 K N N a0 a1 a2 v11 v44 s39 t40) (fun i46 vs47 s48 t49 => (if i46 = 72 then (px_v0 vs47 (px_gd ((vp_in a0 (K.2.2 30)) ∧ (vp_in a0 (K.2.2 30))) (px_let (sA s48 30 a0.toNatClampNeg (((s48.2.2.1 30) a0.toNatClampNeg) - (1 : Int32))) (fun s55 => (px_gd (vp_in a0 (K.2.2 30)) (px_let (v11 + ((s55.2.2.1 30) a0.toNatClampNeg)) (fun v58 => (px_gd (vp_in v58 (K.2.2 31)) (px_let (sA s55 31 v58.toNatClampNeg a1) (fun s61 => (px_lp (l_M_write_28_44_94 K N N a0 a2 v58 (0 : Int32) s61 t49) (fun i63 vs64 s65 t66 => (if i63 = 112 then (px_v0 vs64 (px_gd ((vp_in a0 (K.2.2 30)) ∧ (vp_in a0 (K.2.2 30))) (px_let (sA s65 30 a0.toNatClampNeg (((s65.2.2.1 30) a0.toNatClampNeg) + (1 : Int32))) (fun s72 => (some (.inl none, s72, t66)))))) else none)) (fun z68 => some z68)))))))))))) else none)) (fun z51 => some z51))))) else none)) (fun z42 => some z42))) (fun x36 s32 t33 => none))))))))) else (some (.inl none, s1, t2)))) (fun x5 s1 t2 => none))
set_option maxRecDepth 100000 in
theorem e_M_write_28_44 (K : px_K) (N : Nat) (a0 : Int32) (a1 : Int32) (a2 : Int32) (s : px_S) (t : px_W) (r : px_Res) (h : f_M_write_28_44 K N a0 a1 a2 s t = some r) : px_E px_ET px_P 5 29 0 (px_ent 7 [.ref 28, .int a0, .int a1, .ref 44, .int a2]) [] (px_w K s t) r.1 (px_w K r.2.1 r.2.2) := by
  have hM : px_P[29]? = some pm_M_write := rfl
  unfold f_M_write_28_44 at h
  refine px_blk (i' := 1) (L' := [some (.ref 28), some (.int a0), some (.int a1), some (.ref 44), some (.int a2), none, none]) (S' := [.ref 28]) (w' := px_w K s t) (q := []) 1 hM rfl trivial ?_
  rcases px_bi_some h with ⟨v4, s1, t2, hk3, h⟩ | ⟨x5, s1, t2, hk3, h⟩
  · refine px_E_call hM rfl rfl rfl rfl (px_E_mono (by decide) (e_M_acts_28 K N s t _ hk3)) ?_
    refine px_blkif (c := ¬ v4 = 0) (t := 4) (e := 3) (L' := [some (.ref 28), some (.int a0), some (.int a1), some (.ref 44), some (.int a2), none, none]) (S' := []) (w' := px_w K s1 t2) (q := []) 1 hM rfl trivial (fun hc6 => ?_) (fun hc6 => ?_)
    · rw [if_pos hc6] at h
      obtain ⟨⟨hq7, hq8⟩, h⟩ := px_gd_some h
      refine px_blk (i' := 12) (L' := [some (.ref 28), some (.int a0), some (.int a1), some (.ref 44), some (.int a2), none, none]) (S' := []) (w' := px_w K (sA s1 33 a0.toNatClampNeg (((s1.2.2.1 33) a0.toNatClampNeg) + (1 : Int32))) t2) (q := [vp_in a0 (K.2.2 33), vp_in a0 (K.2.2 33)]) 8 hM rfl (show (vp_in a0 (K.2.2 33)) ∧ (vp_in a0 (K.2.2 33)) from ⟨hq7, hq8⟩) ?_
      obtain ⟨s9, hs10, h⟩ := px_let_some h
      rw [← hs10]
      refine px_blk (i' := 16) (L' := [some (.ref 28), some (.int a0), some (.int a1), some (.ref 44), some (.int a2), some (.int ((64 : Int32) * a0)), none]) (S' := []) (w' := px_w K s9 t2) (q := []) 4 hM rfl trivial ?_
      obtain ⟨v11, hv12, h⟩ := px_let_some h
      rw [← hv12]
      obtain ⟨hq13, h⟩ := px_gd_some h
      refine px_blkif (c := ¬ ((s9.2.2.1 30) a0.toNatClampNeg) = (64 : Int32)) (t := 80) (e := 22) (L' := [some (.ref 28), some (.int a0), some (.int a1), some (.ref 44), some (.int a2), some (.int v11), none]) (S' := []) (w' := px_w K s9 t2) (q := [vp_in a0 (K.2.2 30)]) 6 hM rfl (show vp_in a0 (K.2.2 30) from hq13) (fun hc14 => ?_) (fun hc14 => ?_)
      · rw [if_pos hc14] at h
        obtain ⟨hq15, h⟩ := px_gd_some h
        refine px_blk (i' := 87) (L' := [some (.ref 28), some (.int a0), some (.int a1), some (.ref 44), some (.int a2), some (.int (v11 + ((s9.2.2.1 30) a0.toNatClampNeg))), none]) (S' := []) (w' := px_w K s9 t2) (q := [vp_in a0 (K.2.2 30)]) 7 hM rfl (show vp_in a0 (K.2.2 30) from hq15) ?_
        obtain ⟨v16, hv17, h⟩ := px_let_some h
        rw [← hv17]
        obtain ⟨hq18, h⟩ := px_gd_some h
        refine px_blk (i' := 92) (L' := [some (.ref 28), some (.int a0), some (.int a1), some (.ref 44), some (.int a2), some (.int v16), none]) (S' := []) (w' := px_w K (sA s9 31 v16.toNatClampNeg a1) t2) (q := [vp_in v16 (K.2.2 31)]) 5 hM rfl (show vp_in v16 (K.2.2 31) from hq18) ?_
        obtain ⟨s19, hs20, h⟩ := px_let_some h
        rw [← hs20]
        refine px_blk (i' := 94) (L' := [some (.ref 28), some (.int a0), some (.int a1), some (.ref 44), some (.int a2), some (.int v16), some (.int (0 : Int32))]) (S' := []) (w' := px_w K s19 t2) (q := []) 2 hM rfl trivial ?_
        rcases px_lp_some h with ⟨i21, vs22, s23, t24, hl25, h⟩ | ⟨z26, hl25, h⟩
        · by_cases hi27 : i21 = 112
          · subst hi27
            rw [if_pos rfl] at h
            have h9 := px_v0_some h
            clear h
            obtain ⟨rfl, h⟩ := h9
            refine px_E_le (px_leC_L _ _ (by simp [px_leC, px_le1, Value.category])) (e_l_M_write_28_44_94 K N a0 a2 v16 N (0 : Int32) s19 t2 _ hl25 _ _ ?_)
            show px_E px_ET px_P 5 29 112 [some (.ref 28), some (.int a0), none, none, none, none, none] [] (px_w K s23 t24) _ _
            obtain ⟨⟨hq28, hq29⟩, h⟩ := px_gd_some h
            refine px_blk (i' := 120) (L' := [some (.ref 28), some (.int a0), none, none, none, none, none]) (S' := []) (w' := px_w K (sA s23 30 a0.toNatClampNeg (((s23.2.2.1 30) a0.toNatClampNeg) + (1 : Int32))) t24) (q := [vp_in a0 (K.2.2 30), vp_in a0 (K.2.2 30)]) 8 hM rfl (show (vp_in a0 (K.2.2 30)) ∧ (vp_in a0 (K.2.2 30)) from ⟨hq28, hq29⟩) ?_
            obtain ⟨s30, hs31, h⟩ := px_let_some h
            rw [← hs31]
            cases h
            exact px_E_ret hM rfl rfl rfl trivial
          · rw [if_neg hi27] at h
            cases h
        · cases h
          exact px_E_le (px_leC_L _ _ (by simp [px_leC, px_le1, Value.category])) (e_l_M_write_28_44_94 K N a0 a2 v16 N (0 : Int32) s19 t2 _ hl25 _ _ ⟨rfl, rfl⟩)
      · rw [if_neg hc14] at h
        refine px_blk (i' := 25) (L' := [some (.ref 28), some (.int a0), some (.int a1), some (.ref 44), some (.int a2), some (.int v11), none]) (S' := [.int (0 : Int32), .int a0, .ref 28]) (w' := px_w K s9 t2) (q := []) 3 hM rfl trivial ?_
        rcases px_bv_some h with ⟨s32, t33, hk34, h⟩ | ⟨x36, s32, t33, hk34, h⟩
        · refine px_E_call hM rfl rfl rfl rfl (px_E_mono (by decide) (e_M_becomesStable_28 K N a0 (0 : Int32) s9 t2 _ hk34)) ?_
          refine px_blk (i' := 28) (L' := [some (.ref 28), some (.int a0), some (.int a1), some (.ref 44), some (.int a2), some (.int v11), some (.int v11)]) (S' := []) (w' := px_w K s32 t33) (q := []) 2 hM rfl trivial ?_
          rcases px_lp_some h with ⟨i37, vs38, s39, t40, hl41, h⟩ | ⟨z42, hl41, h⟩
          · by_cases hi43 : i37 = 47
            · subst hi43
              rw [if_pos rfl] at h
              have h9 := px_v0_some h
              clear h
              obtain ⟨rfl, h⟩ := h9
              refine e_l_M_write_28_44_28 K N a0 a1 a2 v11 N v11 s32 t33 _ hl41 _ _ ?_
              show px_E px_ET px_P 5 29 47 [some (.ref 28), some (.int a0), some (.int a1), some (.ref 44), some (.int a2), some (.int v11), none] [] (px_w K s39 t40) _ _
              refine px_blk (i' := 51) (L' := [some (.ref 28), some (.int a0), some (.int a1), some (.ref 44), some (.int a2), some (.int v11), some (.int ((16 : Int32) * v11))]) (S' := []) (w' := px_w K s39 t40) (q := []) 4 hM rfl trivial ?_
              obtain ⟨v44, hv45, h⟩ := px_let_some h
              rw [← hv45]
              rcases px_lp_some h with ⟨i46, vs47, s48, t49, hl50, h⟩ | ⟨z51, hl50, h⟩
              · by_cases hi52 : i46 = 72
                · subst hi52
                  rw [if_pos rfl] at h
                  have h9 := px_v0_some h
                  clear h
                  obtain ⟨rfl, h⟩ := h9
                  refine e_l_M_write_28_44_51 K N a0 a1 a2 v11 N v44 s39 t40 _ hl50 _ _ ?_
                  show px_E px_ET px_P 5 29 72 [some (.ref 28), some (.int a0), some (.int a1), some (.ref 44), some (.int a2), some (.int v11), none] [] (px_w K s48 t49) _ _
                  obtain ⟨⟨hq53, hq54⟩, h⟩ := px_gd_some h
                  refine px_blk (i' := 80) (L' := [some (.ref 28), some (.int a0), some (.int a1), some (.ref 44), some (.int a2), some (.int v11), none]) (S' := []) (w' := px_w K (sA s48 30 a0.toNatClampNeg (((s48.2.2.1 30) a0.toNatClampNeg) - (1 : Int32))) t49) (q := [vp_in a0 (K.2.2 30), vp_in a0 (K.2.2 30)]) 8 hM rfl (show (vp_in a0 (K.2.2 30)) ∧ (vp_in a0 (K.2.2 30)) from ⟨hq53, hq54⟩) ?_
                  obtain ⟨s55, hs56, h⟩ := px_let_some h
                  rw [← hs56]
                  obtain ⟨hq57, h⟩ := px_gd_some h
                  refine px_blk (i' := 87) (L' := [some (.ref 28), some (.int a0), some (.int a1), some (.ref 44), some (.int a2), some (.int (v11 + ((s55.2.2.1 30) a0.toNatClampNeg))), none]) (S' := []) (w' := px_w K s55 t49) (q := [vp_in a0 (K.2.2 30)]) 7 hM rfl (show vp_in a0 (K.2.2 30) from hq57) ?_
                  obtain ⟨v58, hv59, h⟩ := px_let_some h
                  rw [← hv59]
                  obtain ⟨hq60, h⟩ := px_gd_some h
                  refine px_blk (i' := 92) (L' := [some (.ref 28), some (.int a0), some (.int a1), some (.ref 44), some (.int a2), some (.int v58), none]) (S' := []) (w' := px_w K (sA s55 31 v58.toNatClampNeg a1) t49) (q := [vp_in v58 (K.2.2 31)]) 5 hM rfl (show vp_in v58 (K.2.2 31) from hq60) ?_
                  obtain ⟨s61, hs62, h⟩ := px_let_some h
                  rw [← hs62]
                  refine px_blk (i' := 94) (L' := [some (.ref 28), some (.int a0), some (.int a1), some (.ref 44), some (.int a2), some (.int v58), some (.int (0 : Int32))]) (S' := []) (w' := px_w K s61 t49) (q := []) 2 hM rfl trivial ?_
                  rcases px_lp_some h with ⟨i63, vs64, s65, t66, hl67, h⟩ | ⟨z68, hl67, h⟩
                  · by_cases hi69 : i63 = 112
                    · subst hi69
                      rw [if_pos rfl] at h
                      have h9 := px_v0_some h
                      clear h
                      obtain ⟨rfl, h⟩ := h9
                      refine px_E_le (px_leC_L _ _ (by simp [px_leC, px_le1, Value.category])) (e_l_M_write_28_44_94 K N a0 a2 v58 N (0 : Int32) s61 t49 _ hl67 _ _ ?_)
                      show px_E px_ET px_P 5 29 112 [some (.ref 28), some (.int a0), none, none, none, none, none] [] (px_w K s65 t66) _ _
                      obtain ⟨⟨hq70, hq71⟩, h⟩ := px_gd_some h
                      refine px_blk (i' := 120) (L' := [some (.ref 28), some (.int a0), none, none, none, none, none]) (S' := []) (w' := px_w K (sA s65 30 a0.toNatClampNeg (((s65.2.2.1 30) a0.toNatClampNeg) + (1 : Int32))) t66) (q := [vp_in a0 (K.2.2 30), vp_in a0 (K.2.2 30)]) 8 hM rfl (show (vp_in a0 (K.2.2 30)) ∧ (vp_in a0 (K.2.2 30)) from ⟨hq70, hq71⟩) ?_
                      obtain ⟨s72, hs73, h⟩ := px_let_some h
                      rw [← hs73]
                      cases h
                      exact px_E_ret hM rfl rfl rfl trivial
                    · rw [if_neg hi69] at h
                      cases h
                  · cases h
                    exact px_E_le (px_leC_L _ _ (by simp [px_leC, px_le1, Value.category])) (e_l_M_write_28_44_94 K N a0 a2 v58 N (0 : Int32) s61 t49 _ hl67 _ _ ⟨rfl, rfl⟩)
                · rw [if_neg hi52] at h
                  cases h
              · cases h
                exact e_l_M_write_28_44_51 K N a0 a1 a2 v11 N v44 s39 t40 _ hl50 _ _ ⟨rfl, rfl⟩
            · rw [if_neg hi43] at h
              cases h
          · cases h
            exact e_l_M_write_28_44_28 K N a0 a1 a2 v11 N v11 s32 t33 _ hl41 _ _ ⟨rfl, rfl⟩
        · cases h
    · rw [if_neg hc6] at h
      cases h
      exact px_E_ret hM rfl rfl rfl trivial
  · cases h
noncomputable def l_M_writeVolume_28_44_48 (K : px_K) (N : Nat) (n : Nat) (u1 : Int32) (u3 : Int32) (m4 : Int32) (s : px_S) (t : px_W) : Option px_LO := match n with
  | 0 => none
  | n + 1 => (if 0 ≤ m4 then (some (.inl (81, [m4], s, t))) else (if (s.1 29) = 0 then (some (.inl (81, [m4], s, t))) else (px_gd (¬ (s.1 26) = 0) (px_bi (f_M_hasClosed_28 K N (u1 - u1 / (s.1 26) * (s.1 26)) s t) (fun v7 s4 t5 => (if ¬ v7 = 0 then (px_bi (f_M_land1_28 K N s4 t5) (fun v13 s10 t11 => (px_bi (f_M_cleanOf_28 K N u1 s10 t11) (fun v18 s15 t16 => (if 0 ≤ v18 then (l_M_writeVolume_28_44_48 K N n u1 u3 v18 s15 t16) else (px_gd (¬ (s15.1 26) = 0) (px_bi (f_M_find_28 K N (u1 - u1 / (s15.1 26) * (s15.1 26)) s15 t16) (fun v25 s22 t23 => (l_M_writeVolume_28_44_48 K N n u1 u3 v25 s22 t23)) (fun x26 s22 t23 => none))))) (fun x19 s15 t16 => none))) (fun x14 s10 t11 => none)) else (px_bv (f_M_close_28 K N s4 t5) (fun s27 t28 => (px_bi (f_M_land1_28 K N s27 t28) (fun v35 s32 t33 => (px_bi (f_M_cleanOf_28 K N u1 s32 t33) (fun v40 s37 t38 => (if 0 ≤ v40 then (l_M_writeVolume_28_44_48 K N n u1 u3 v40 s37 t38) else (px_gd (¬ (s37.1 26) = 0) (px_bi (f_M_find_28 K N (u1 - u1 / (s37.1 26) * (s37.1 26)) s37 t38) (fun v47 s44 t45 => (l_M_writeVolume_28_44_48 K N n u1 u3 v47 s44 t45)) (fun x48 s44 t45 => none))))) (fun x41 s37 t38 => none))) (fun x36 s32 t33 => none))) (fun x31 s27 t28 => none)))) (fun x8 s4 t5 => none)))))
def a_l_M_writeVolume_28_44_48 (K : px_K) (u1 : Int32) (u3 : Int32) (z : px_LO) (o : Option Value ⊕ Nat) (w2 : px_W) : Prop := match z with
  | .inr (o', s', t') => o = o' ∧ w2 = px_w K s' t'
  | .inl (81, [y4], s', t') => px_E px_ET px_P 9 41 81 [some (.ref 28), some (.int u1), some (.ref 44), some (.int u3), some (.int y4), none] [] (px_w K s' t') o w2
  | _ => False
set_option maxRecDepth 100000 in
theorem e_l_M_writeVolume_28_44_48 (K : px_K) (N : Nat) (u1 : Int32) (u3 : Int32) : ∀ (n : Nat) (m4 : Int32) (s : px_S) (t : px_W) (z : px_LO), l_M_writeVolume_28_44_48 K N n u1 u3 m4 s t = some z → ∀ (o : Option Value ⊕ Nat) (w2 : px_W), a_l_M_writeVolume_28_44_48 K u1 u3 z o w2 → px_E px_ET px_P 9 41 48 [some (.ref 28), some (.int u1), some (.ref 44), some (.int u3), some (.int m4), none] [] (px_w K s t) o w2 := by
  have hM : px_P[41]? = some pm_M_writeVolume := rfl
  intro n
  induction n with
  | zero => intro m4 s t z h; cases h
  | succ n ih =>
    intro m4 s t z h o w2 ha
    unfold l_M_writeVolume_28_44_48 at h
    refine px_blkif (c := 0 ≤ m4) (t := 81) (e := 50) (L' := [some (.ref 28), some (.int u1), some (.ref 44), some (.int u3), some (.int m4), none]) (S' := []) (w' := px_w K s t) (q := []) 2 hM rfl trivial (fun hc1 => ?_) (fun hc1 => ?_)
    · rw [if_pos hc1] at h
      cases h
      exact px_E_le (px_leC_L _ _ (by simp [px_leC, px_le1, Value.category])) ha
    · rw [if_neg hc1] at h
      refine px_blkif (c := (s.1 29) = 0) (t := 81) (e := 53) (L' := [some (.ref 28), some (.int u1), some (.ref 44), some (.int u3), some (.int m4), none]) (S' := []) (w' := px_w K s t) (q := []) 3 hM rfl trivial (fun hc2 => ?_) (fun hc2 => ?_)
      · rw [if_pos hc2] at h
        cases h
        exact px_E_le (px_leC_L _ _ (by simp [px_leC, px_le1, Value.category])) ha
      · rw [if_neg hc2] at h
        obtain ⟨hq3, h⟩ := px_gd_some h
        refine px_blk (i' := 58) (L' := [some (.ref 28), some (.int u1), some (.ref 44), some (.int u3), some (.int m4), none]) (S' := [.int (u1 - u1 / (s.1 26) * (s.1 26)), .ref 28]) (w' := px_w K s t) (q := [¬ (s.1 26) = 0]) 5 hM rfl (show ¬ (s.1 26) = 0 from hq3) ?_
        rcases px_bi_some h with ⟨v7, s4, t5, hk6, h⟩ | ⟨x8, s4, t5, hk6, h⟩
        · refine px_E_call hM rfl rfl rfl rfl (px_E_mono (by decide) (e_M_hasClosed_28 K N (u1 - u1 / (s.1 26) * (s.1 26)) s t _ hk6)) ?_
          refine px_blkif (c := ¬ v7 = 0) (t := 62) (e := 60) (L' := [some (.ref 28), some (.int u1), some (.ref 44), some (.int u3), some (.int m4), none]) (S' := []) (w' := px_w K s4 t5) (q := []) 1 hM rfl trivial (fun hc9 => ?_) (fun hc9 => ?_)
          · rw [if_pos hc9] at h
            refine px_blk (i' := 63) (L' := [some (.ref 28), some (.int u1), some (.ref 44), some (.int u3), some (.int m4), none]) (S' := [.ref 28]) (w' := px_w K s4 t5) (q := []) 1 hM rfl trivial ?_
            rcases px_bi_some h with ⟨v13, s10, t11, hk12, h⟩ | ⟨x14, s10, t11, hk12, h⟩
            · refine px_E_call hM rfl rfl rfl rfl (px_E_mono (by decide) (e_M_land1_28 K N s4 t5 _ hk12)) ?_
              refine px_blk (i' := 67) (L' := [some (.ref 28), some (.int u1), some (.ref 44), some (.int u3), some (.int m4), some (.int v13)]) (S' := [.int u1, .ref 28]) (w' := px_w K s10 t11) (q := []) 3 hM rfl trivial ?_
              rcases px_bi_some h with ⟨v18, s15, t16, hk17, h⟩ | ⟨x19, s15, t16, hk17, h⟩
              · refine px_E_call hM rfl rfl rfl rfl (px_E_mono (by decide) (e_M_cleanOf_28 K N u1 s10 t11 _ hk17)) ?_
                refine px_blkif (c := 0 ≤ v18) (t := 78) (e := 71) (L' := [some (.ref 28), some (.int u1), some (.ref 44), some (.int u3), some (.int v18), some (.int v13)]) (S' := []) (w' := px_w K s15 t16) (q := []) 3 hM rfl trivial (fun hc20 => ?_) (fun hc20 => ?_)
                · rw [if_pos hc20] at h
                  refine px_blk (i' := 48) (L' := [some (.ref 28), some (.int u1), some (.ref 44), some (.int u3), some (.int v18), some (.int v13)]) (S' := []) (w' := px_w K s15 t16) (q := []) 3 hM rfl trivial ?_
                  exact px_E_le (px_leC_L _ _ (by simp [px_leC, px_le1, Value.category])) (ih v18 s15 t16 z h o w2 ha)
                · rw [if_neg hc20] at h
                  obtain ⟨hq21, h⟩ := px_gd_some h
                  refine px_blk (i' := 76) (L' := [some (.ref 28), some (.int u1), some (.ref 44), some (.int u3), some (.int v18), some (.int v13)]) (S' := [.int (u1 - u1 / (s15.1 26) * (s15.1 26)), .ref 28]) (w' := px_w K s15 t16) (q := [¬ (s15.1 26) = 0]) 5 hM rfl (show ¬ (s15.1 26) = 0 from hq21) ?_
                  rcases px_bi_some h with ⟨v25, s22, t23, hk24, h⟩ | ⟨x26, s22, t23, hk24, h⟩
                  · refine px_E_call hM rfl rfl rfl rfl (px_E_mono (by decide) (e_M_find_28 K N (u1 - u1 / (s15.1 26) * (s15.1 26)) s15 t16 _ hk24)) ?_
                    refine px_blk (i' := 48) (L' := [some (.ref 28), some (.int u1), some (.ref 44), some (.int u3), some (.int v25), some (.int v13)]) (S' := []) (w' := px_w K s22 t23) (q := []) 3 hM rfl trivial ?_
                    exact px_E_le (px_leC_L _ _ (by simp [px_leC, px_le1, Value.category])) (ih v25 s22 t23 z h o w2 ha)
                  · cases h
              · cases h
            · cases h
          · rw [if_neg hc9] at h
            refine px_blk (i' := 61) (L' := [some (.ref 28), some (.int u1), some (.ref 44), some (.int u3), some (.int m4), none]) (S' := [.ref 28]) (w' := px_w K s4 t5) (q := []) 1 hM rfl trivial ?_
            rcases px_bv_some h with ⟨s27, t28, hk29, h⟩ | ⟨x31, s27, t28, hk29, h⟩
            · refine px_E_call hM rfl rfl rfl rfl (px_E_mono (by decide) (e_M_close_28 K N s4 t5 _ hk29)) ?_
              refine px_blk (i' := 63) (L' := [some (.ref 28), some (.int u1), some (.ref 44), some (.int u3), some (.int m4), none]) (S' := [.ref 28]) (w' := px_w K s27 t28) (q := []) 1 hM rfl trivial ?_
              rcases px_bi_some h with ⟨v35, s32, t33, hk34, h⟩ | ⟨x36, s32, t33, hk34, h⟩
              · refine px_E_call hM rfl rfl rfl rfl (px_E_mono (by decide) (e_M_land1_28 K N s27 t28 _ hk34)) ?_
                refine px_blk (i' := 67) (L' := [some (.ref 28), some (.int u1), some (.ref 44), some (.int u3), some (.int m4), some (.int v35)]) (S' := [.int u1, .ref 28]) (w' := px_w K s32 t33) (q := []) 3 hM rfl trivial ?_
                rcases px_bi_some h with ⟨v40, s37, t38, hk39, h⟩ | ⟨x41, s37, t38, hk39, h⟩
                · refine px_E_call hM rfl rfl rfl rfl (px_E_mono (by decide) (e_M_cleanOf_28 K N u1 s32 t33 _ hk39)) ?_
                  refine px_blkif (c := 0 ≤ v40) (t := 78) (e := 71) (L' := [some (.ref 28), some (.int u1), some (.ref 44), some (.int u3), some (.int v40), some (.int v35)]) (S' := []) (w' := px_w K s37 t38) (q := []) 3 hM rfl trivial (fun hc42 => ?_) (fun hc42 => ?_)
                  · rw [if_pos hc42] at h
                    refine px_blk (i' := 48) (L' := [some (.ref 28), some (.int u1), some (.ref 44), some (.int u3), some (.int v40), some (.int v35)]) (S' := []) (w' := px_w K s37 t38) (q := []) 3 hM rfl trivial ?_
                    exact px_E_le (px_leC_L _ _ (by simp [px_leC, px_le1, Value.category])) (ih v40 s37 t38 z h o w2 ha)
                  · rw [if_neg hc42] at h
                    obtain ⟨hq43, h⟩ := px_gd_some h
                    refine px_blk (i' := 76) (L' := [some (.ref 28), some (.int u1), some (.ref 44), some (.int u3), some (.int v40), some (.int v35)]) (S' := [.int (u1 - u1 / (s37.1 26) * (s37.1 26)), .ref 28]) (w' := px_w K s37 t38) (q := [¬ (s37.1 26) = 0]) 5 hM rfl (show ¬ (s37.1 26) = 0 from hq43) ?_
                    rcases px_bi_some h with ⟨v47, s44, t45, hk46, h⟩ | ⟨x48, s44, t45, hk46, h⟩
                    · refine px_E_call hM rfl rfl rfl rfl (px_E_mono (by decide) (e_M_find_28 K N (u1 - u1 / (s37.1 26) * (s37.1 26)) s37 t38 _ hk46)) ?_
                      refine px_blk (i' := 48) (L' := [some (.ref 28), some (.int u1), some (.ref 44), some (.int u3), some (.int v47), some (.int v35)]) (S' := []) (w' := px_w K s44 t45) (q := []) 3 hM rfl trivial ?_
                      exact px_E_le (px_leC_L _ _ (by simp [px_leC, px_le1, Value.category])) (ih v47 s44 t45 z h o w2 ha)
                    · cases h
                · cases h
              · cases h
            · cases h
        · cases h
noncomputable def f_M_writeVolume_28_44 (K : px_K) (N : Nat) (a0 : Int32) (a1 : Int32) (s : px_S) (t : px_W) : Option px_Res :=
  (if ¬ (s.1 31) = 0 then (px_bi (f_M_newest_28 K N a0 s t) (fun v5 s2 t3 => (if v5 < 0 then (px_bi (f_M_dirtyOf_28 K N (s2.1 32) s2 t3) (fun v11 s8 t9 => (if ¬ v11 = (16 : Int32) then (px_bi (f_M_cleanOf_28 K N a0 s8 t9) (fun v17 s14 t15 => (if 0 ≤ v17 then (px_lp (l_M_writeVolume_28_44_48 K N N a0 a1 v17 s14 t15) (fun i20 vs21 s22 t23 => (if i20 = 81 then (px_v1 vs21 (fun y26 => (if 0 ≤ y26 then (px_gd (vp_in y26 (K.2.2 35)) (px_let (sA s22 35 y26.toNatClampNeg a0) (fun s30 => (px_gd (vp_in y26 (K.2.2 36)) (px_let (sA s30 36 y26.toNatClampNeg (s30.1 32)) (fun s33 => (px_gd (vp_in y26 (K.2.2 37)) (px_let (sA s33 37 y26.toNatClampNeg (1 : Int32)) (fun s36 => (px_bv (f_M_write_28_44 K N (1 : Int32) ((50 : Int32) + y26) a1 s36 t23) (fun s38 t39 => (some (.inl none, s38, t39))) (fun x42 s38 t39 => none))))))))))) else (some (.inl none, s22, t23))))) else none)) (fun z25 => some z25)) else (px_gd (¬ (s14.1 26) = 0) (px_bi (f_M_find_28 K N (a0 - a0 / (s14.1 26) * (s14.1 26)) s14 t15) (fun v47 s44 t45 => (px_lp (l_M_writeVolume_28_44_48 K N N a0 a1 v47 s44 t45) (fun i49 vs50 s51 t52 => (if i49 = 81 then (px_v1 vs50 (fun y55 => (if 0 ≤ y55 then (px_gd (vp_in y55 (K.2.2 35)) (px_let (sA s51 35 y55.toNatClampNeg a0) (fun s59 => (px_gd (vp_in y55 (K.2.2 36)) (px_let (sA s59 36 y55.toNatClampNeg (s59.1 32)) (fun s62 => (px_gd (vp_in y55 (K.2.2 37)) (px_let (sA s62 37 y55.toNatClampNeg (1 : Int32)) (fun s65 => (px_bv (f_M_write_28_44 K N (1 : Int32) ((50 : Int32) + y55) a1 s65 t52) (fun s67 t68 => (some (.inl none, s67, t68))) (fun x71 s67 t68 => none))))))))))) else (some (.inl none, s51, t52))))) else none)) (fun z54 => some z54))) (fun x48 s44 t45 => none))))) (fun x18 s14 t15 => none)) else (px_bv (f_M_close_28 K N s8 t9) (fun s72 t73 => (px_bi (f_M_cleanOf_28 K N a0 s72 t73) (fun v80 s77 t78 => (if 0 ≤ v80 then (px_lp (l_M_writeVolume_28_44_48 K N N a0 a1 v80 s77 t78) (fun i83 vs84 s85 t86 => (if i83 = 81 then (px_v1 vs84 (fun y89 => (if 0 ≤ y89 then (px_gd (vp_in y89 (K.2.2 35)) (px_let (sA s85 35 y89.toNatClampNeg a0) (fun s93 => (px_gd (vp_in y89 (K.2.2 36)) (px_let (sA s93 36 y89.toNatClampNeg (s93.1 32)) (fun s96 => (px_gd (vp_in y89 (K.2.2 37)) (px_let (sA s96 37 y89.toNatClampNeg (1 : Int32)) (fun s99 => (px_bv (f_M_write_28_44 K N (1 : Int32) ((50 : Int32) + y89) a1 s99 t86) (fun s101 t102 => (some (.inl none, s101, t102))) (fun x105 s101 t102 => none))))))))))) else (some (.inl none, s85, t86))))) else none)) (fun z88 => some z88)) else (px_gd (¬ (s77.1 26) = 0) (px_bi (f_M_find_28 K N (a0 - a0 / (s77.1 26) * (s77.1 26)) s77 t78) (fun v110 s107 t108 => (px_lp (l_M_writeVolume_28_44_48 K N N a0 a1 v110 s107 t108) (fun i112 vs113 s114 t115 => (if i112 = 81 then (px_v1 vs113 (fun y118 => (if 0 ≤ y118 then (px_gd (vp_in y118 (K.2.2 35)) (px_let (sA s114 35 y118.toNatClampNeg a0) (fun s122 => (px_gd (vp_in y118 (K.2.2 36)) (px_let (sA s122 36 y118.toNatClampNeg (s122.1 32)) (fun s125 => (px_gd (vp_in y118 (K.2.2 37)) (px_let (sA s125 37 y118.toNatClampNeg (1 : Int32)) (fun s128 => (px_bv (f_M_write_28_44 K N (1 : Int32) ((50 : Int32) + y118) a1 s128 t115) (fun s130 t131 => (some (.inl none, s130, t131))) (fun x134 s130 t131 => none))))))))))) else (some (.inl none, s114, t115))))) else none)) (fun z117 => some z117))) (fun x111 s107 t108 => none))))) (fun x81 s77 t78 => none))) (fun x76 s72 t73 => none)))) (fun x12 s8 t9 => none)) else (px_gd (vp_in v5 (K.2.2 36)) (if ((s2.2.2.1 36) v5.toNatClampNeg) = (s2.1 32) then (px_bv (f_M_write_28_44 K N (1 : Int32) ((50 : Int32) + v5) a1 s2 t3) (fun s137 t138 => (some (.inl none, s137, t138))) (fun x141 s137 t138 => none)) else (px_bi (f_M_dirtyOf_28 K N (s2.1 32) s2 t3) (fun v145 s142 t143 => (if ¬ v145 = (16 : Int32) then (px_bi (f_M_cleanOf_28 K N a0 s142 t143) (fun v151 s148 t149 => (if 0 ≤ v151 then (px_lp (l_M_writeVolume_28_44_48 K N N a0 a1 v151 s148 t149) (fun i154 vs155 s156 t157 => (if i154 = 81 then (px_v1 vs155 (fun y160 => (if 0 ≤ y160 then (px_gd (vp_in y160 (K.2.2 35)) (px_let (sA s156 35 y160.toNatClampNeg a0) (fun s164 => (px_gd (vp_in y160 (K.2.2 36)) (px_let (sA s164 36 y160.toNatClampNeg (s164.1 32)) (fun s167 => (px_gd (vp_in y160 (K.2.2 37)) (px_let (sA s167 37 y160.toNatClampNeg (1 : Int32)) (fun s170 => (px_bv (f_M_write_28_44 K N (1 : Int32) ((50 : Int32) + y160) a1 s170 t157) (fun s172 t173 => (some (.inl none, s172, t173))) (fun x176 s172 t173 => none))))))))))) else (some (.inl none, s156, t157))))) else none)) (fun z159 => some z159)) else (px_gd (¬ (s148.1 26) = 0) (px_bi (f_M_find_28 K N (a0 - a0 / (s148.1 26) * (s148.1 26)) s148 t149) (fun v181 s178 t179 => (px_lp (l_M_writeVolume_28_44_48 K N N a0 a1 v181 s178 t179) (fun i183 vs184 s185 t186 => (if i183 = 81 then (px_v1 vs184 (fun y189 => (if 0 ≤ y189 then (px_gd (vp_in y189 (K.2.2 35)) (px_let (sA s185 35 y189.toNatClampNeg a0) (fun s193 => (px_gd (vp_in y189 (K.2.2 36)) (px_let (sA s193 36 y189.toNatClampNeg (s193.1 32)) (fun s196 => (px_gd (vp_in y189 (K.2.2 37)) (px_let (sA s196 37 y189.toNatClampNeg (1 : Int32)) (fun s199 => (px_bv (f_M_write_28_44 K N (1 : Int32) ((50 : Int32) + y189) a1 s199 t186) (fun s201 t202 => (some (.inl none, s201, t202))) (fun x205 s201 t202 => none))))))))))) else (some (.inl none, s185, t186))))) else none)) (fun z188 => some z188))) (fun x182 s178 t179 => none))))) (fun x152 s148 t149 => none)) else (px_bv (f_M_close_28 K N s142 t143) (fun s206 t207 => (px_bi (f_M_cleanOf_28 K N a0 s206 t207) (fun v214 s211 t212 => (if 0 ≤ v214 then (px_lp (l_M_writeVolume_28_44_48 K N N a0 a1 v214 s211 t212) (fun i217 vs218 s219 t220 => (if i217 = 81 then (px_v1 vs218 (fun y223 => (if 0 ≤ y223 then (px_gd (vp_in y223 (K.2.2 35)) (px_let (sA s219 35 y223.toNatClampNeg a0) (fun s227 => (px_gd (vp_in y223 (K.2.2 36)) (px_let (sA s227 36 y223.toNatClampNeg (s227.1 32)) (fun s230 => (px_gd (vp_in y223 (K.2.2 37)) (px_let (sA s230 37 y223.toNatClampNeg (1 : Int32)) (fun s233 => (px_bv (f_M_write_28_44 K N (1 : Int32) ((50 : Int32) + y223) a1 s233 t220) (fun s235 t236 => (some (.inl none, s235, t236))) (fun x239 s235 t236 => none))))))))))) else (some (.inl none, s219, t220))))) else none)) (fun z222 => some z222)) else (px_gd (¬ (s211.1 26) = 0) (px_bi (f_M_find_28 K N (a0 - a0 / (s211.1 26) * (s211.1 26)) s211 t212) (fun v244 s241 t242 => (px_lp (l_M_writeVolume_28_44_48 K N N a0 a1 v244 s241 t242) (fun i246 vs247 s248 t249 => (if i246 = 81 then (px_v1 vs247 (fun y252 => (if 0 ≤ y252 then (px_gd (vp_in y252 (K.2.2 35)) (px_let (sA s248 35 y252.toNatClampNeg a0) (fun s256 => (px_gd (vp_in y252 (K.2.2 36)) (px_let (sA s256 36 y252.toNatClampNeg (s256.1 32)) (fun s259 => (px_gd (vp_in y252 (K.2.2 37)) (px_let (sA s259 37 y252.toNatClampNeg (1 : Int32)) (fun s262 => (px_bv (f_M_write_28_44 K N (1 : Int32) ((50 : Int32) + y252) a1 s262 t249) (fun s264 t265 => (some (.inl none, s264, t265))) (fun x268 s264 t265 => none))))))))))) else (some (.inl none, s248, t249))))) else none)) (fun z251 => some z251))) (fun x245 s241 t242 => none))))) (fun x215 s211 t212 => none))) (fun x210 s206 t207 => none)))) (fun x146 s142 t143 => none)))))) (fun x6 s2 t3 => none)) else (px_bv (f_M_write_28_44 K N (0 : Int32) ((19 : Int32) + a0) a1 s t) (fun s269 t270 => (some (.inl none, s269, t270))) (fun x273 s269 t270 => none)))
set_option maxRecDepth 100000 in
theorem e_M_writeVolume_28_44 (K : px_K) (N : Nat) (a0 : Int32) (a1 : Int32) (s : px_S) (t : px_W) (r : px_Res) (h : f_M_writeVolume_28_44 K N a0 a1 s t = some r) : px_E px_ET px_P 9 41 0 (px_ent 6 [.ref 28, .int a0, .ref 44, .int a1]) [] (px_w K s t) r.1 (px_w K r.2.1 r.2.2) := by
  have hM : px_P[41]? = some pm_M_writeVolume := rfl
  unfold f_M_writeVolume_28_44 at h
  refine px_blkif (c := ¬ (s.1 31) = 0) (t := 12) (e := 3) (L' := [some (.ref 28), some (.int a0), some (.ref 44), some (.int a1), none, none]) (S' := []) (w' := px_w K s t) (q := []) 3 hM rfl trivial (fun hc1 => ?_) (fun hc1 => ?_)
  · rw [if_pos hc1] at h
    refine px_blk (i' := 14) (L' := [some (.ref 28), some (.int a0), some (.ref 44), some (.int a1), none, none]) (S' := [.int a0, .ref 28]) (w' := px_w K s t) (q := []) 2 hM rfl trivial ?_
    rcases px_bi_some h with ⟨v5, s2, t3, hk4, h⟩ | ⟨x6, s2, t3, hk4, h⟩
    · refine px_E_call hM rfl rfl rfl rfl (px_E_mono (by decide) (e_M_newest_28 K N a0 s t _ hk4)) ?_
      refine px_blkif (c := v5 < 0) (t := 25) (e := 18) (L' := [some (.ref 28), some (.int a0), some (.ref 44), some (.int a1), some (.int v5), none]) (S' := []) (w' := px_w K s2 t3) (q := []) 3 hM rfl trivial (fun hc7 => ?_) (fun hc7 => ?_)
      · rw [if_pos hc7] at h
        refine px_blk (i' := 28) (L' := [some (.ref 28), some (.int a0), some (.ref 44), some (.int a1), some (.int v5), none]) (S' := [.int (s2.1 32), .ref 28]) (w' := px_w K s2 t3) (q := []) 3 hM rfl trivial ?_
        rcases px_bi_some h with ⟨v11, s8, t9, hk10, h⟩ | ⟨x12, s8, t9, hk10, h⟩
        · refine px_E_call hM rfl rfl rfl rfl (px_E_mono (by decide) (e_M_dirtyOf_28 K N (s2.1 32) s2 t3 _ hk10)) ?_
          refine px_blkif (c := ¬ v11 = (16 : Int32)) (t := 33) (e := 31) (L' := [some (.ref 28), some (.int a0), some (.ref 44), some (.int a1), some (.int v5), none]) (S' := []) (w' := px_w K s8 t9) (q := []) 2 hM rfl trivial (fun hc13 => ?_) (fun hc13 => ?_)
          · rw [if_pos hc13] at h
            refine px_blk (i' := 35) (L' := [some (.ref 28), some (.int a0), some (.ref 44), some (.int a1), some (.int v5), none]) (S' := [.int a0, .ref 28]) (w' := px_w K s8 t9) (q := []) 2 hM rfl trivial ?_
            rcases px_bi_some h with ⟨v17, s14, t15, hk16, h⟩ | ⟨x18, s14, t15, hk16, h⟩
            · refine px_E_call hM rfl rfl rfl rfl (px_E_mono (by decide) (e_M_cleanOf_28 K N a0 s8 t9 _ hk16)) ?_
              refine px_blkif (c := 0 ≤ v17) (t := 46) (e := 39) (L' := [some (.ref 28), some (.int a0), some (.ref 44), some (.int a1), some (.int v17), none]) (S' := []) (w' := px_w K s14 t15) (q := []) 3 hM rfl trivial (fun hc19 => ?_) (fun hc19 => ?_)
              · rw [if_pos hc19] at h
                refine px_blk (i' := 48) (L' := [some (.ref 28), some (.int a0), some (.ref 44), some (.int a1), some (.int v17), none]) (S' := []) (w' := px_w K s14 t15) (q := []) 2 hM rfl trivial ?_
                rcases px_lp_some h with ⟨i20, vs21, s22, t23, hl24, h⟩ | ⟨z25, hl24, h⟩
                · by_cases hi27 : i20 = 81
                  · subst hi27
                    rw [if_pos rfl] at h
                    have h9 := px_v1_some h
                    clear h
                    obtain ⟨y26, rfl, h⟩ := h9
                    refine e_l_M_writeVolume_28_44_48 K N a0 a1 N v17 s14 t15 _ hl24 _ _ ?_
                    show px_E px_ET px_P 9 41 81 [some (.ref 28), some (.int a0), some (.ref 44), some (.int a1), some (.int y26), none] [] (px_w K s22 t23) _ _
                    refine px_blkif (c := 0 ≤ y26) (t := 84) (e := 83) (L' := [some (.ref 28), some (.int a0), some (.ref 44), some (.int a1), some (.int y26), none]) (S' := []) (w' := px_w K s22 t23) (q := []) 2 hM rfl trivial (fun hc28 => ?_) (fun hc28 => ?_)
                    · rw [if_pos hc28] at h
                      obtain ⟨hq29, h⟩ := px_gd_some h
                      refine px_blk (i' := 89) (L' := [some (.ref 28), some (.int a0), some (.ref 44), some (.int a1), some (.int y26), none]) (S' := []) (w' := px_w K (sA s22 35 y26.toNatClampNeg a0) t23) (q := [vp_in y26 (K.2.2 35)]) 5 hM rfl (show vp_in y26 (K.2.2 35) from hq29) ?_
                      obtain ⟨s30, hs31, h⟩ := px_let_some h
                      rw [← hs31]
                      obtain ⟨hq32, h⟩ := px_gd_some h
                      refine px_blk (i' := 95) (L' := [some (.ref 28), some (.int a0), some (.ref 44), some (.int a1), some (.int y26), none]) (S' := []) (w' := px_w K (sA s30 36 y26.toNatClampNeg (s30.1 32)) t23) (q := [vp_in y26 (K.2.2 36)]) 6 hM rfl (show vp_in y26 (K.2.2 36) from hq32) ?_
                      obtain ⟨s33, hs34, h⟩ := px_let_some h
                      rw [← hs34]
                      obtain ⟨hq35, h⟩ := px_gd_some h
                      refine px_blk (i' := 100) (L' := [some (.ref 28), some (.int a0), some (.ref 44), some (.int a1), some (.int y26), none]) (S' := []) (w' := px_w K (sA s33 37 y26.toNatClampNeg (1 : Int32)) t23) (q := [vp_in y26 (K.2.2 37), (1 : Int32) = 0 ∨ (1 : Int32) = 1]) 5 hM rfl (show (vp_in y26 (K.2.2 37)) ∧ ((1 : Int32) = 0 ∨ (1 : Int32) = 1) from ⟨hq35, Or.inr rfl⟩) ?_
                      obtain ⟨s36, hs37, h⟩ := px_let_some h
                      rw [← hs37]
                      refine px_blk (i' := 107) (L' := [some (.ref 28), some (.int a0), some (.ref 44), some (.int a1), some (.int y26), none]) (S' := [.int a1, .ref 44, .int ((50 : Int32) + y26), .int (1 : Int32), .ref 28]) (w' := px_w K s36 t23) (q := []) 7 hM rfl trivial ?_
                      rcases px_bv_some h with ⟨s38, t39, hk40, h⟩ | ⟨x42, s38, t39, hk40, h⟩
                      · refine px_E_call hM rfl rfl rfl rfl (px_E_mono (by decide) (e_M_write_28_44 K N (1 : Int32) ((50 : Int32) + y26) a1 s36 t23 _ hk40)) ?_
                        cases h
                        exact px_E_ret hM rfl rfl rfl trivial
                      · cases h
                    · rw [if_neg hc28] at h
                      cases h
                      exact px_E_ret hM rfl rfl rfl trivial
                  · rw [if_neg hi27] at h
                    cases h
                · cases h
                  exact e_l_M_writeVolume_28_44_48 K N a0 a1 N v17 s14 t15 _ hl24 _ _ ⟨rfl, rfl⟩
              · rw [if_neg hc19] at h
                obtain ⟨hq43, h⟩ := px_gd_some h
                refine px_blk (i' := 44) (L' := [some (.ref 28), some (.int a0), some (.ref 44), some (.int a1), some (.int v17), none]) (S' := [.int (a0 - a0 / (s14.1 26) * (s14.1 26)), .ref 28]) (w' := px_w K s14 t15) (q := [¬ (s14.1 26) = 0]) 5 hM rfl (show ¬ (s14.1 26) = 0 from hq43) ?_
                rcases px_bi_some h with ⟨v47, s44, t45, hk46, h⟩ | ⟨x48, s44, t45, hk46, h⟩
                · refine px_E_call hM rfl rfl rfl rfl (px_E_mono (by decide) (e_M_find_28 K N (a0 - a0 / (s14.1 26) * (s14.1 26)) s14 t15 _ hk46)) ?_
                  refine px_blk (i' := 48) (L' := [some (.ref 28), some (.int a0), some (.ref 44), some (.int a1), some (.int v47), none]) (S' := []) (w' := px_w K s44 t45) (q := []) 2 hM rfl trivial ?_
                  rcases px_lp_some h with ⟨i49, vs50, s51, t52, hl53, h⟩ | ⟨z54, hl53, h⟩
                  · by_cases hi56 : i49 = 81
                    · subst hi56
                      rw [if_pos rfl] at h
                      have h9 := px_v1_some h
                      clear h
                      obtain ⟨y55, rfl, h⟩ := h9
                      refine e_l_M_writeVolume_28_44_48 K N a0 a1 N v47 s44 t45 _ hl53 _ _ ?_
                      show px_E px_ET px_P 9 41 81 [some (.ref 28), some (.int a0), some (.ref 44), some (.int a1), some (.int y55), none] [] (px_w K s51 t52) _ _
                      refine px_blkif (c := 0 ≤ y55) (t := 84) (e := 83) (L' := [some (.ref 28), some (.int a0), some (.ref 44), some (.int a1), some (.int y55), none]) (S' := []) (w' := px_w K s51 t52) (q := []) 2 hM rfl trivial (fun hc57 => ?_) (fun hc57 => ?_)
                      · rw [if_pos hc57] at h
                        obtain ⟨hq58, h⟩ := px_gd_some h
                        refine px_blk (i' := 89) (L' := [some (.ref 28), some (.int a0), some (.ref 44), some (.int a1), some (.int y55), none]) (S' := []) (w' := px_w K (sA s51 35 y55.toNatClampNeg a0) t52) (q := [vp_in y55 (K.2.2 35)]) 5 hM rfl (show vp_in y55 (K.2.2 35) from hq58) ?_
                        obtain ⟨s59, hs60, h⟩ := px_let_some h
                        rw [← hs60]
                        obtain ⟨hq61, h⟩ := px_gd_some h
                        refine px_blk (i' := 95) (L' := [some (.ref 28), some (.int a0), some (.ref 44), some (.int a1), some (.int y55), none]) (S' := []) (w' := px_w K (sA s59 36 y55.toNatClampNeg (s59.1 32)) t52) (q := [vp_in y55 (K.2.2 36)]) 6 hM rfl (show vp_in y55 (K.2.2 36) from hq61) ?_
                        obtain ⟨s62, hs63, h⟩ := px_let_some h
                        rw [← hs63]
                        obtain ⟨hq64, h⟩ := px_gd_some h
                        refine px_blk (i' := 100) (L' := [some (.ref 28), some (.int a0), some (.ref 44), some (.int a1), some (.int y55), none]) (S' := []) (w' := px_w K (sA s62 37 y55.toNatClampNeg (1 : Int32)) t52) (q := [vp_in y55 (K.2.2 37), (1 : Int32) = 0 ∨ (1 : Int32) = 1]) 5 hM rfl (show (vp_in y55 (K.2.2 37)) ∧ ((1 : Int32) = 0 ∨ (1 : Int32) = 1) from ⟨hq64, Or.inr rfl⟩) ?_
                        obtain ⟨s65, hs66, h⟩ := px_let_some h
                        rw [← hs66]
                        refine px_blk (i' := 107) (L' := [some (.ref 28), some (.int a0), some (.ref 44), some (.int a1), some (.int y55), none]) (S' := [.int a1, .ref 44, .int ((50 : Int32) + y55), .int (1 : Int32), .ref 28]) (w' := px_w K s65 t52) (q := []) 7 hM rfl trivial ?_
                        rcases px_bv_some h with ⟨s67, t68, hk69, h⟩ | ⟨x71, s67, t68, hk69, h⟩
                        · refine px_E_call hM rfl rfl rfl rfl (px_E_mono (by decide) (e_M_write_28_44 K N (1 : Int32) ((50 : Int32) + y55) a1 s65 t52 _ hk69)) ?_
                          cases h
                          exact px_E_ret hM rfl rfl rfl trivial
                        · cases h
                      · rw [if_neg hc57] at h
                        cases h
                        exact px_E_ret hM rfl rfl rfl trivial
                    · rw [if_neg hi56] at h
                      cases h
                  · cases h
                    exact e_l_M_writeVolume_28_44_48 K N a0 a1 N v47 s44 t45 _ hl53 _ _ ⟨rfl, rfl⟩
                · cases h
            · cases h
          · rw [if_neg hc13] at h
            refine px_blk (i' := 32) (L' := [some (.ref 28), some (.int a0), some (.ref 44), some (.int a1), some (.int v5), none]) (S' := [.ref 28]) (w' := px_w K s8 t9) (q := []) 1 hM rfl trivial ?_
            rcases px_bv_some h with ⟨s72, t73, hk74, h⟩ | ⟨x76, s72, t73, hk74, h⟩
            · refine px_E_call hM rfl rfl rfl rfl (px_E_mono (by decide) (e_M_close_28 K N s8 t9 _ hk74)) ?_
              refine px_blk (i' := 35) (L' := [some (.ref 28), some (.int a0), some (.ref 44), some (.int a1), some (.int v5), none]) (S' := [.int a0, .ref 28]) (w' := px_w K s72 t73) (q := []) 2 hM rfl trivial ?_
              rcases px_bi_some h with ⟨v80, s77, t78, hk79, h⟩ | ⟨x81, s77, t78, hk79, h⟩
              · refine px_E_call hM rfl rfl rfl rfl (px_E_mono (by decide) (e_M_cleanOf_28 K N a0 s72 t73 _ hk79)) ?_
                refine px_blkif (c := 0 ≤ v80) (t := 46) (e := 39) (L' := [some (.ref 28), some (.int a0), some (.ref 44), some (.int a1), some (.int v80), none]) (S' := []) (w' := px_w K s77 t78) (q := []) 3 hM rfl trivial (fun hc82 => ?_) (fun hc82 => ?_)
                · rw [if_pos hc82] at h
                  refine px_blk (i' := 48) (L' := [some (.ref 28), some (.int a0), some (.ref 44), some (.int a1), some (.int v80), none]) (S' := []) (w' := px_w K s77 t78) (q := []) 2 hM rfl trivial ?_
                  rcases px_lp_some h with ⟨i83, vs84, s85, t86, hl87, h⟩ | ⟨z88, hl87, h⟩
                  · by_cases hi90 : i83 = 81
                    · subst hi90
                      rw [if_pos rfl] at h
                      have h9 := px_v1_some h
                      clear h
                      obtain ⟨y89, rfl, h⟩ := h9
                      refine e_l_M_writeVolume_28_44_48 K N a0 a1 N v80 s77 t78 _ hl87 _ _ ?_
                      show px_E px_ET px_P 9 41 81 [some (.ref 28), some (.int a0), some (.ref 44), some (.int a1), some (.int y89), none] [] (px_w K s85 t86) _ _
                      refine px_blkif (c := 0 ≤ y89) (t := 84) (e := 83) (L' := [some (.ref 28), some (.int a0), some (.ref 44), some (.int a1), some (.int y89), none]) (S' := []) (w' := px_w K s85 t86) (q := []) 2 hM rfl trivial (fun hc91 => ?_) (fun hc91 => ?_)
                      · rw [if_pos hc91] at h
                        obtain ⟨hq92, h⟩ := px_gd_some h
                        refine px_blk (i' := 89) (L' := [some (.ref 28), some (.int a0), some (.ref 44), some (.int a1), some (.int y89), none]) (S' := []) (w' := px_w K (sA s85 35 y89.toNatClampNeg a0) t86) (q := [vp_in y89 (K.2.2 35)]) 5 hM rfl (show vp_in y89 (K.2.2 35) from hq92) ?_
                        obtain ⟨s93, hs94, h⟩ := px_let_some h
                        rw [← hs94]
                        obtain ⟨hq95, h⟩ := px_gd_some h
                        refine px_blk (i' := 95) (L' := [some (.ref 28), some (.int a0), some (.ref 44), some (.int a1), some (.int y89), none]) (S' := []) (w' := px_w K (sA s93 36 y89.toNatClampNeg (s93.1 32)) t86) (q := [vp_in y89 (K.2.2 36)]) 6 hM rfl (show vp_in y89 (K.2.2 36) from hq95) ?_
                        obtain ⟨s96, hs97, h⟩ := px_let_some h
                        rw [← hs97]
                        obtain ⟨hq98, h⟩ := px_gd_some h
                        refine px_blk (i' := 100) (L' := [some (.ref 28), some (.int a0), some (.ref 44), some (.int a1), some (.int y89), none]) (S' := []) (w' := px_w K (sA s96 37 y89.toNatClampNeg (1 : Int32)) t86) (q := [vp_in y89 (K.2.2 37), (1 : Int32) = 0 ∨ (1 : Int32) = 1]) 5 hM rfl (show (vp_in y89 (K.2.2 37)) ∧ ((1 : Int32) = 0 ∨ (1 : Int32) = 1) from ⟨hq98, Or.inr rfl⟩) ?_
                        obtain ⟨s99, hs100, h⟩ := px_let_some h
                        rw [← hs100]
                        refine px_blk (i' := 107) (L' := [some (.ref 28), some (.int a0), some (.ref 44), some (.int a1), some (.int y89), none]) (S' := [.int a1, .ref 44, .int ((50 : Int32) + y89), .int (1 : Int32), .ref 28]) (w' := px_w K s99 t86) (q := []) 7 hM rfl trivial ?_
                        rcases px_bv_some h with ⟨s101, t102, hk103, h⟩ | ⟨x105, s101, t102, hk103, h⟩
                        · refine px_E_call hM rfl rfl rfl rfl (px_E_mono (by decide) (e_M_write_28_44 K N (1 : Int32) ((50 : Int32) + y89) a1 s99 t86 _ hk103)) ?_
                          cases h
                          exact px_E_ret hM rfl rfl rfl trivial
                        · cases h
                      · rw [if_neg hc91] at h
                        cases h
                        exact px_E_ret hM rfl rfl rfl trivial
                    · rw [if_neg hi90] at h
                      cases h
                  · cases h
                    exact e_l_M_writeVolume_28_44_48 K N a0 a1 N v80 s77 t78 _ hl87 _ _ ⟨rfl, rfl⟩
                · rw [if_neg hc82] at h
                  obtain ⟨hq106, h⟩ := px_gd_some h
                  refine px_blk (i' := 44) (L' := [some (.ref 28), some (.int a0), some (.ref 44), some (.int a1), some (.int v80), none]) (S' := [.int (a0 - a0 / (s77.1 26) * (s77.1 26)), .ref 28]) (w' := px_w K s77 t78) (q := [¬ (s77.1 26) = 0]) 5 hM rfl (show ¬ (s77.1 26) = 0 from hq106) ?_
                  rcases px_bi_some h with ⟨v110, s107, t108, hk109, h⟩ | ⟨x111, s107, t108, hk109, h⟩
                  · refine px_E_call hM rfl rfl rfl rfl (px_E_mono (by decide) (e_M_find_28 K N (a0 - a0 / (s77.1 26) * (s77.1 26)) s77 t78 _ hk109)) ?_
                    refine px_blk (i' := 48) (L' := [some (.ref 28), some (.int a0), some (.ref 44), some (.int a1), some (.int v110), none]) (S' := []) (w' := px_w K s107 t108) (q := []) 2 hM rfl trivial ?_
                    rcases px_lp_some h with ⟨i112, vs113, s114, t115, hl116, h⟩ | ⟨z117, hl116, h⟩
                    · by_cases hi119 : i112 = 81
                      · subst hi119
                        rw [if_pos rfl] at h
                        have h9 := px_v1_some h
                        clear h
                        obtain ⟨y118, rfl, h⟩ := h9
                        refine e_l_M_writeVolume_28_44_48 K N a0 a1 N v110 s107 t108 _ hl116 _ _ ?_
                        show px_E px_ET px_P 9 41 81 [some (.ref 28), some (.int a0), some (.ref 44), some (.int a1), some (.int y118), none] [] (px_w K s114 t115) _ _
                        refine px_blkif (c := 0 ≤ y118) (t := 84) (e := 83) (L' := [some (.ref 28), some (.int a0), some (.ref 44), some (.int a1), some (.int y118), none]) (S' := []) (w' := px_w K s114 t115) (q := []) 2 hM rfl trivial (fun hc120 => ?_) (fun hc120 => ?_)
                        · rw [if_pos hc120] at h
                          obtain ⟨hq121, h⟩ := px_gd_some h
                          refine px_blk (i' := 89) (L' := [some (.ref 28), some (.int a0), some (.ref 44), some (.int a1), some (.int y118), none]) (S' := []) (w' := px_w K (sA s114 35 y118.toNatClampNeg a0) t115) (q := [vp_in y118 (K.2.2 35)]) 5 hM rfl (show vp_in y118 (K.2.2 35) from hq121) ?_
                          obtain ⟨s122, hs123, h⟩ := px_let_some h
                          rw [← hs123]
                          obtain ⟨hq124, h⟩ := px_gd_some h
                          refine px_blk (i' := 95) (L' := [some (.ref 28), some (.int a0), some (.ref 44), some (.int a1), some (.int y118), none]) (S' := []) (w' := px_w K (sA s122 36 y118.toNatClampNeg (s122.1 32)) t115) (q := [vp_in y118 (K.2.2 36)]) 6 hM rfl (show vp_in y118 (K.2.2 36) from hq124) ?_
                          obtain ⟨s125, hs126, h⟩ := px_let_some h
                          rw [← hs126]
                          obtain ⟨hq127, h⟩ := px_gd_some h
                          refine px_blk (i' := 100) (L' := [some (.ref 28), some (.int a0), some (.ref 44), some (.int a1), some (.int y118), none]) (S' := []) (w' := px_w K (sA s125 37 y118.toNatClampNeg (1 : Int32)) t115) (q := [vp_in y118 (K.2.2 37), (1 : Int32) = 0 ∨ (1 : Int32) = 1]) 5 hM rfl (show (vp_in y118 (K.2.2 37)) ∧ ((1 : Int32) = 0 ∨ (1 : Int32) = 1) from ⟨hq127, Or.inr rfl⟩) ?_
                          obtain ⟨s128, hs129, h⟩ := px_let_some h
                          rw [← hs129]
                          refine px_blk (i' := 107) (L' := [some (.ref 28), some (.int a0), some (.ref 44), some (.int a1), some (.int y118), none]) (S' := [.int a1, .ref 44, .int ((50 : Int32) + y118), .int (1 : Int32), .ref 28]) (w' := px_w K s128 t115) (q := []) 7 hM rfl trivial ?_
                          rcases px_bv_some h with ⟨s130, t131, hk132, h⟩ | ⟨x134, s130, t131, hk132, h⟩
                          · refine px_E_call hM rfl rfl rfl rfl (px_E_mono (by decide) (e_M_write_28_44 K N (1 : Int32) ((50 : Int32) + y118) a1 s128 t115 _ hk132)) ?_
                            cases h
                            exact px_E_ret hM rfl rfl rfl trivial
                          · cases h
                        · rw [if_neg hc120] at h
                          cases h
                          exact px_E_ret hM rfl rfl rfl trivial
                      · rw [if_neg hi119] at h
                        cases h
                    · cases h
                      exact e_l_M_writeVolume_28_44_48 K N a0 a1 N v110 s107 t108 _ hl116 _ _ ⟨rfl, rfl⟩
                  · cases h
              · cases h
            · cases h
        · cases h
      · rw [if_neg hc7] at h
        obtain ⟨hq135, h⟩ := px_gd_some h
        refine px_blkif (c := ((s2.2.2.1 36) v5.toNatClampNeg) = (s2.1 32)) (t := 100) (e := 25) (L' := [some (.ref 28), some (.int a0), some (.ref 44), some (.int a1), some (.int v5), none]) (S' := []) (w' := px_w K s2 t3) (q := [vp_in v5 (K.2.2 36)]) 7 hM rfl (show vp_in v5 (K.2.2 36) from hq135) (fun hc136 => ?_) (fun hc136 => ?_)
        · rw [if_pos hc136] at h
          refine px_blk (i' := 107) (L' := [some (.ref 28), some (.int a0), some (.ref 44), some (.int a1), some (.int v5), none]) (S' := [.int a1, .ref 44, .int ((50 : Int32) + v5), .int (1 : Int32), .ref 28]) (w' := px_w K s2 t3) (q := []) 7 hM rfl trivial ?_
          rcases px_bv_some h with ⟨s137, t138, hk139, h⟩ | ⟨x141, s137, t138, hk139, h⟩
          · refine px_E_call hM rfl rfl rfl rfl (px_E_mono (by decide) (e_M_write_28_44 K N (1 : Int32) ((50 : Int32) + v5) a1 s2 t3 _ hk139)) ?_
            cases h
            exact px_E_ret hM rfl rfl rfl trivial
          · cases h
        · rw [if_neg hc136] at h
          refine px_blk (i' := 28) (L' := [some (.ref 28), some (.int a0), some (.ref 44), some (.int a1), some (.int v5), none]) (S' := [.int (s2.1 32), .ref 28]) (w' := px_w K s2 t3) (q := []) 3 hM rfl trivial ?_
          rcases px_bi_some h with ⟨v145, s142, t143, hk144, h⟩ | ⟨x146, s142, t143, hk144, h⟩
          · refine px_E_call hM rfl rfl rfl rfl (px_E_mono (by decide) (e_M_dirtyOf_28 K N (s2.1 32) s2 t3 _ hk144)) ?_
            refine px_blkif (c := ¬ v145 = (16 : Int32)) (t := 33) (e := 31) (L' := [some (.ref 28), some (.int a0), some (.ref 44), some (.int a1), some (.int v5), none]) (S' := []) (w' := px_w K s142 t143) (q := []) 2 hM rfl trivial (fun hc147 => ?_) (fun hc147 => ?_)
            · rw [if_pos hc147] at h
              refine px_blk (i' := 35) (L' := [some (.ref 28), some (.int a0), some (.ref 44), some (.int a1), some (.int v5), none]) (S' := [.int a0, .ref 28]) (w' := px_w K s142 t143) (q := []) 2 hM rfl trivial ?_
              rcases px_bi_some h with ⟨v151, s148, t149, hk150, h⟩ | ⟨x152, s148, t149, hk150, h⟩
              · refine px_E_call hM rfl rfl rfl rfl (px_E_mono (by decide) (e_M_cleanOf_28 K N a0 s142 t143 _ hk150)) ?_
                refine px_blkif (c := 0 ≤ v151) (t := 46) (e := 39) (L' := [some (.ref 28), some (.int a0), some (.ref 44), some (.int a1), some (.int v151), none]) (S' := []) (w' := px_w K s148 t149) (q := []) 3 hM rfl trivial (fun hc153 => ?_) (fun hc153 => ?_)
                · rw [if_pos hc153] at h
                  refine px_blk (i' := 48) (L' := [some (.ref 28), some (.int a0), some (.ref 44), some (.int a1), some (.int v151), none]) (S' := []) (w' := px_w K s148 t149) (q := []) 2 hM rfl trivial ?_
                  rcases px_lp_some h with ⟨i154, vs155, s156, t157, hl158, h⟩ | ⟨z159, hl158, h⟩
                  · by_cases hi161 : i154 = 81
                    · subst hi161
                      rw [if_pos rfl] at h
                      have h9 := px_v1_some h
                      clear h
                      obtain ⟨y160, rfl, h⟩ := h9
                      refine e_l_M_writeVolume_28_44_48 K N a0 a1 N v151 s148 t149 _ hl158 _ _ ?_
                      show px_E px_ET px_P 9 41 81 [some (.ref 28), some (.int a0), some (.ref 44), some (.int a1), some (.int y160), none] [] (px_w K s156 t157) _ _
                      refine px_blkif (c := 0 ≤ y160) (t := 84) (e := 83) (L' := [some (.ref 28), some (.int a0), some (.ref 44), some (.int a1), some (.int y160), none]) (S' := []) (w' := px_w K s156 t157) (q := []) 2 hM rfl trivial (fun hc162 => ?_) (fun hc162 => ?_)
                      · rw [if_pos hc162] at h
                        obtain ⟨hq163, h⟩ := px_gd_some h
                        refine px_blk (i' := 89) (L' := [some (.ref 28), some (.int a0), some (.ref 44), some (.int a1), some (.int y160), none]) (S' := []) (w' := px_w K (sA s156 35 y160.toNatClampNeg a0) t157) (q := [vp_in y160 (K.2.2 35)]) 5 hM rfl (show vp_in y160 (K.2.2 35) from hq163) ?_
                        obtain ⟨s164, hs165, h⟩ := px_let_some h
                        rw [← hs165]
                        obtain ⟨hq166, h⟩ := px_gd_some h
                        refine px_blk (i' := 95) (L' := [some (.ref 28), some (.int a0), some (.ref 44), some (.int a1), some (.int y160), none]) (S' := []) (w' := px_w K (sA s164 36 y160.toNatClampNeg (s164.1 32)) t157) (q := [vp_in y160 (K.2.2 36)]) 6 hM rfl (show vp_in y160 (K.2.2 36) from hq166) ?_
                        obtain ⟨s167, hs168, h⟩ := px_let_some h
                        rw [← hs168]
                        obtain ⟨hq169, h⟩ := px_gd_some h
                        refine px_blk (i' := 100) (L' := [some (.ref 28), some (.int a0), some (.ref 44), some (.int a1), some (.int y160), none]) (S' := []) (w' := px_w K (sA s167 37 y160.toNatClampNeg (1 : Int32)) t157) (q := [vp_in y160 (K.2.2 37), (1 : Int32) = 0 ∨ (1 : Int32) = 1]) 5 hM rfl (show (vp_in y160 (K.2.2 37)) ∧ ((1 : Int32) = 0 ∨ (1 : Int32) = 1) from ⟨hq169, Or.inr rfl⟩) ?_
                        obtain ⟨s170, hs171, h⟩ := px_let_some h
                        rw [← hs171]
                        refine px_blk (i' := 107) (L' := [some (.ref 28), some (.int a0), some (.ref 44), some (.int a1), some (.int y160), none]) (S' := [.int a1, .ref 44, .int ((50 : Int32) + y160), .int (1 : Int32), .ref 28]) (w' := px_w K s170 t157) (q := []) 7 hM rfl trivial ?_
                        rcases px_bv_some h with ⟨s172, t173, hk174, h⟩ | ⟨x176, s172, t173, hk174, h⟩
                        · refine px_E_call hM rfl rfl rfl rfl (px_E_mono (by decide) (e_M_write_28_44 K N (1 : Int32) ((50 : Int32) + y160) a1 s170 t157 _ hk174)) ?_
                          cases h
                          exact px_E_ret hM rfl rfl rfl trivial
                        · cases h
                      · rw [if_neg hc162] at h
                        cases h
                        exact px_E_ret hM rfl rfl rfl trivial
                    · rw [if_neg hi161] at h
                      cases h
                  · cases h
                    exact e_l_M_writeVolume_28_44_48 K N a0 a1 N v151 s148 t149 _ hl158 _ _ ⟨rfl, rfl⟩
                · rw [if_neg hc153] at h
                  obtain ⟨hq177, h⟩ := px_gd_some h
                  refine px_blk (i' := 44) (L' := [some (.ref 28), some (.int a0), some (.ref 44), some (.int a1), some (.int v151), none]) (S' := [.int (a0 - a0 / (s148.1 26) * (s148.1 26)), .ref 28]) (w' := px_w K s148 t149) (q := [¬ (s148.1 26) = 0]) 5 hM rfl (show ¬ (s148.1 26) = 0 from hq177) ?_
                  rcases px_bi_some h with ⟨v181, s178, t179, hk180, h⟩ | ⟨x182, s178, t179, hk180, h⟩
                  · refine px_E_call hM rfl rfl rfl rfl (px_E_mono (by decide) (e_M_find_28 K N (a0 - a0 / (s148.1 26) * (s148.1 26)) s148 t149 _ hk180)) ?_
                    refine px_blk (i' := 48) (L' := [some (.ref 28), some (.int a0), some (.ref 44), some (.int a1), some (.int v181), none]) (S' := []) (w' := px_w K s178 t179) (q := []) 2 hM rfl trivial ?_
                    rcases px_lp_some h with ⟨i183, vs184, s185, t186, hl187, h⟩ | ⟨z188, hl187, h⟩
                    · by_cases hi190 : i183 = 81
                      · subst hi190
                        rw [if_pos rfl] at h
                        have h9 := px_v1_some h
                        clear h
                        obtain ⟨y189, rfl, h⟩ := h9
                        refine e_l_M_writeVolume_28_44_48 K N a0 a1 N v181 s178 t179 _ hl187 _ _ ?_
                        show px_E px_ET px_P 9 41 81 [some (.ref 28), some (.int a0), some (.ref 44), some (.int a1), some (.int y189), none] [] (px_w K s185 t186) _ _
                        refine px_blkif (c := 0 ≤ y189) (t := 84) (e := 83) (L' := [some (.ref 28), some (.int a0), some (.ref 44), some (.int a1), some (.int y189), none]) (S' := []) (w' := px_w K s185 t186) (q := []) 2 hM rfl trivial (fun hc191 => ?_) (fun hc191 => ?_)
                        · rw [if_pos hc191] at h
                          obtain ⟨hq192, h⟩ := px_gd_some h
                          refine px_blk (i' := 89) (L' := [some (.ref 28), some (.int a0), some (.ref 44), some (.int a1), some (.int y189), none]) (S' := []) (w' := px_w K (sA s185 35 y189.toNatClampNeg a0) t186) (q := [vp_in y189 (K.2.2 35)]) 5 hM rfl (show vp_in y189 (K.2.2 35) from hq192) ?_
                          obtain ⟨s193, hs194, h⟩ := px_let_some h
                          rw [← hs194]
                          obtain ⟨hq195, h⟩ := px_gd_some h
                          refine px_blk (i' := 95) (L' := [some (.ref 28), some (.int a0), some (.ref 44), some (.int a1), some (.int y189), none]) (S' := []) (w' := px_w K (sA s193 36 y189.toNatClampNeg (s193.1 32)) t186) (q := [vp_in y189 (K.2.2 36)]) 6 hM rfl (show vp_in y189 (K.2.2 36) from hq195) ?_
                          obtain ⟨s196, hs197, h⟩ := px_let_some h
                          rw [← hs197]
                          obtain ⟨hq198, h⟩ := px_gd_some h
                          refine px_blk (i' := 100) (L' := [some (.ref 28), some (.int a0), some (.ref 44), some (.int a1), some (.int y189), none]) (S' := []) (w' := px_w K (sA s196 37 y189.toNatClampNeg (1 : Int32)) t186) (q := [vp_in y189 (K.2.2 37), (1 : Int32) = 0 ∨ (1 : Int32) = 1]) 5 hM rfl (show (vp_in y189 (K.2.2 37)) ∧ ((1 : Int32) = 0 ∨ (1 : Int32) = 1) from ⟨hq198, Or.inr rfl⟩) ?_
                          obtain ⟨s199, hs200, h⟩ := px_let_some h
                          rw [← hs200]
                          refine px_blk (i' := 107) (L' := [some (.ref 28), some (.int a0), some (.ref 44), some (.int a1), some (.int y189), none]) (S' := [.int a1, .ref 44, .int ((50 : Int32) + y189), .int (1 : Int32), .ref 28]) (w' := px_w K s199 t186) (q := []) 7 hM rfl trivial ?_
                          rcases px_bv_some h with ⟨s201, t202, hk203, h⟩ | ⟨x205, s201, t202, hk203, h⟩
                          · refine px_E_call hM rfl rfl rfl rfl (px_E_mono (by decide) (e_M_write_28_44 K N (1 : Int32) ((50 : Int32) + y189) a1 s199 t186 _ hk203)) ?_
                            cases h
                            exact px_E_ret hM rfl rfl rfl trivial
                          · cases h
                        · rw [if_neg hc191] at h
                          cases h
                          exact px_E_ret hM rfl rfl rfl trivial
                      · rw [if_neg hi190] at h
                        cases h
                    · cases h
                      exact e_l_M_writeVolume_28_44_48 K N a0 a1 N v181 s178 t179 _ hl187 _ _ ⟨rfl, rfl⟩
                  · cases h
              · cases h
            · rw [if_neg hc147] at h
              refine px_blk (i' := 32) (L' := [some (.ref 28), some (.int a0), some (.ref 44), some (.int a1), some (.int v5), none]) (S' := [.ref 28]) (w' := px_w K s142 t143) (q := []) 1 hM rfl trivial ?_
              rcases px_bv_some h with ⟨s206, t207, hk208, h⟩ | ⟨x210, s206, t207, hk208, h⟩
              · refine px_E_call hM rfl rfl rfl rfl (px_E_mono (by decide) (e_M_close_28 K N s142 t143 _ hk208)) ?_
                refine px_blk (i' := 35) (L' := [some (.ref 28), some (.int a0), some (.ref 44), some (.int a1), some (.int v5), none]) (S' := [.int a0, .ref 28]) (w' := px_w K s206 t207) (q := []) 2 hM rfl trivial ?_
                rcases px_bi_some h with ⟨v214, s211, t212, hk213, h⟩ | ⟨x215, s211, t212, hk213, h⟩
                · refine px_E_call hM rfl rfl rfl rfl (px_E_mono (by decide) (e_M_cleanOf_28 K N a0 s206 t207 _ hk213)) ?_
                  refine px_blkif (c := 0 ≤ v214) (t := 46) (e := 39) (L' := [some (.ref 28), some (.int a0), some (.ref 44), some (.int a1), some (.int v214), none]) (S' := []) (w' := px_w K s211 t212) (q := []) 3 hM rfl trivial (fun hc216 => ?_) (fun hc216 => ?_)
                  · rw [if_pos hc216] at h
                    refine px_blk (i' := 48) (L' := [some (.ref 28), some (.int a0), some (.ref 44), some (.int a1), some (.int v214), none]) (S' := []) (w' := px_w K s211 t212) (q := []) 2 hM rfl trivial ?_
                    rcases px_lp_some h with ⟨i217, vs218, s219, t220, hl221, h⟩ | ⟨z222, hl221, h⟩
                    · by_cases hi224 : i217 = 81
                      · subst hi224
                        rw [if_pos rfl] at h
                        have h9 := px_v1_some h
                        clear h
                        obtain ⟨y223, rfl, h⟩ := h9
                        refine e_l_M_writeVolume_28_44_48 K N a0 a1 N v214 s211 t212 _ hl221 _ _ ?_
                        show px_E px_ET px_P 9 41 81 [some (.ref 28), some (.int a0), some (.ref 44), some (.int a1), some (.int y223), none] [] (px_w K s219 t220) _ _
                        refine px_blkif (c := 0 ≤ y223) (t := 84) (e := 83) (L' := [some (.ref 28), some (.int a0), some (.ref 44), some (.int a1), some (.int y223), none]) (S' := []) (w' := px_w K s219 t220) (q := []) 2 hM rfl trivial (fun hc225 => ?_) (fun hc225 => ?_)
                        · rw [if_pos hc225] at h
                          obtain ⟨hq226, h⟩ := px_gd_some h
                          refine px_blk (i' := 89) (L' := [some (.ref 28), some (.int a0), some (.ref 44), some (.int a1), some (.int y223), none]) (S' := []) (w' := px_w K (sA s219 35 y223.toNatClampNeg a0) t220) (q := [vp_in y223 (K.2.2 35)]) 5 hM rfl (show vp_in y223 (K.2.2 35) from hq226) ?_
                          obtain ⟨s227, hs228, h⟩ := px_let_some h
                          rw [← hs228]
                          obtain ⟨hq229, h⟩ := px_gd_some h
                          refine px_blk (i' := 95) (L' := [some (.ref 28), some (.int a0), some (.ref 44), some (.int a1), some (.int y223), none]) (S' := []) (w' := px_w K (sA s227 36 y223.toNatClampNeg (s227.1 32)) t220) (q := [vp_in y223 (K.2.2 36)]) 6 hM rfl (show vp_in y223 (K.2.2 36) from hq229) ?_
                          obtain ⟨s230, hs231, h⟩ := px_let_some h
                          rw [← hs231]
                          obtain ⟨hq232, h⟩ := px_gd_some h
                          refine px_blk (i' := 100) (L' := [some (.ref 28), some (.int a0), some (.ref 44), some (.int a1), some (.int y223), none]) (S' := []) (w' := px_w K (sA s230 37 y223.toNatClampNeg (1 : Int32)) t220) (q := [vp_in y223 (K.2.2 37), (1 : Int32) = 0 ∨ (1 : Int32) = 1]) 5 hM rfl (show (vp_in y223 (K.2.2 37)) ∧ ((1 : Int32) = 0 ∨ (1 : Int32) = 1) from ⟨hq232, Or.inr rfl⟩) ?_
                          obtain ⟨s233, hs234, h⟩ := px_let_some h
                          rw [← hs234]
                          refine px_blk (i' := 107) (L' := [some (.ref 28), some (.int a0), some (.ref 44), some (.int a1), some (.int y223), none]) (S' := [.int a1, .ref 44, .int ((50 : Int32) + y223), .int (1 : Int32), .ref 28]) (w' := px_w K s233 t220) (q := []) 7 hM rfl trivial ?_
                          rcases px_bv_some h with ⟨s235, t236, hk237, h⟩ | ⟨x239, s235, t236, hk237, h⟩
                          · refine px_E_call hM rfl rfl rfl rfl (px_E_mono (by decide) (e_M_write_28_44 K N (1 : Int32) ((50 : Int32) + y223) a1 s233 t220 _ hk237)) ?_
                            cases h
                            exact px_E_ret hM rfl rfl rfl trivial
                          · cases h
                        · rw [if_neg hc225] at h
                          cases h
                          exact px_E_ret hM rfl rfl rfl trivial
                      · rw [if_neg hi224] at h
                        cases h
                    · cases h
                      exact e_l_M_writeVolume_28_44_48 K N a0 a1 N v214 s211 t212 _ hl221 _ _ ⟨rfl, rfl⟩
                  · rw [if_neg hc216] at h
                    obtain ⟨hq240, h⟩ := px_gd_some h
                    refine px_blk (i' := 44) (L' := [some (.ref 28), some (.int a0), some (.ref 44), some (.int a1), some (.int v214), none]) (S' := [.int (a0 - a0 / (s211.1 26) * (s211.1 26)), .ref 28]) (w' := px_w K s211 t212) (q := [¬ (s211.1 26) = 0]) 5 hM rfl (show ¬ (s211.1 26) = 0 from hq240) ?_
                    rcases px_bi_some h with ⟨v244, s241, t242, hk243, h⟩ | ⟨x245, s241, t242, hk243, h⟩
                    · refine px_E_call hM rfl rfl rfl rfl (px_E_mono (by decide) (e_M_find_28 K N (a0 - a0 / (s211.1 26) * (s211.1 26)) s211 t212 _ hk243)) ?_
                      refine px_blk (i' := 48) (L' := [some (.ref 28), some (.int a0), some (.ref 44), some (.int a1), some (.int v244), none]) (S' := []) (w' := px_w K s241 t242) (q := []) 2 hM rfl trivial ?_
                      rcases px_lp_some h with ⟨i246, vs247, s248, t249, hl250, h⟩ | ⟨z251, hl250, h⟩
                      · by_cases hi253 : i246 = 81
                        · subst hi253
                          rw [if_pos rfl] at h
                          have h9 := px_v1_some h
                          clear h
                          obtain ⟨y252, rfl, h⟩ := h9
                          refine e_l_M_writeVolume_28_44_48 K N a0 a1 N v244 s241 t242 _ hl250 _ _ ?_
                          show px_E px_ET px_P 9 41 81 [some (.ref 28), some (.int a0), some (.ref 44), some (.int a1), some (.int y252), none] [] (px_w K s248 t249) _ _
                          refine px_blkif (c := 0 ≤ y252) (t := 84) (e := 83) (L' := [some (.ref 28), some (.int a0), some (.ref 44), some (.int a1), some (.int y252), none]) (S' := []) (w' := px_w K s248 t249) (q := []) 2 hM rfl trivial (fun hc254 => ?_) (fun hc254 => ?_)
                          · rw [if_pos hc254] at h
                            obtain ⟨hq255, h⟩ := px_gd_some h
                            refine px_blk (i' := 89) (L' := [some (.ref 28), some (.int a0), some (.ref 44), some (.int a1), some (.int y252), none]) (S' := []) (w' := px_w K (sA s248 35 y252.toNatClampNeg a0) t249) (q := [vp_in y252 (K.2.2 35)]) 5 hM rfl (show vp_in y252 (K.2.2 35) from hq255) ?_
                            obtain ⟨s256, hs257, h⟩ := px_let_some h
                            rw [← hs257]
                            obtain ⟨hq258, h⟩ := px_gd_some h
                            refine px_blk (i' := 95) (L' := [some (.ref 28), some (.int a0), some (.ref 44), some (.int a1), some (.int y252), none]) (S' := []) (w' := px_w K (sA s256 36 y252.toNatClampNeg (s256.1 32)) t249) (q := [vp_in y252 (K.2.2 36)]) 6 hM rfl (show vp_in y252 (K.2.2 36) from hq258) ?_
                            obtain ⟨s259, hs260, h⟩ := px_let_some h
                            rw [← hs260]
                            obtain ⟨hq261, h⟩ := px_gd_some h
                            refine px_blk (i' := 100) (L' := [some (.ref 28), some (.int a0), some (.ref 44), some (.int a1), some (.int y252), none]) (S' := []) (w' := px_w K (sA s259 37 y252.toNatClampNeg (1 : Int32)) t249) (q := [vp_in y252 (K.2.2 37), (1 : Int32) = 0 ∨ (1 : Int32) = 1]) 5 hM rfl (show (vp_in y252 (K.2.2 37)) ∧ ((1 : Int32) = 0 ∨ (1 : Int32) = 1) from ⟨hq261, Or.inr rfl⟩) ?_
                            obtain ⟨s262, hs263, h⟩ := px_let_some h
                            rw [← hs263]
                            refine px_blk (i' := 107) (L' := [some (.ref 28), some (.int a0), some (.ref 44), some (.int a1), some (.int y252), none]) (S' := [.int a1, .ref 44, .int ((50 : Int32) + y252), .int (1 : Int32), .ref 28]) (w' := px_w K s262 t249) (q := []) 7 hM rfl trivial ?_
                            rcases px_bv_some h with ⟨s264, t265, hk266, h⟩ | ⟨x268, s264, t265, hk266, h⟩
                            · refine px_E_call hM rfl rfl rfl rfl (px_E_mono (by decide) (e_M_write_28_44 K N (1 : Int32) ((50 : Int32) + y252) a1 s262 t249 _ hk266)) ?_
                              cases h
                              exact px_E_ret hM rfl rfl rfl trivial
                            · cases h
                          · rw [if_neg hc254] at h
                            cases h
                            exact px_E_ret hM rfl rfl rfl trivial
                        · rw [if_neg hi253] at h
                          cases h
                      · cases h
                        exact e_l_M_writeVolume_28_44_48 K N a0 a1 N v244 s241 t242 _ hl250 _ _ ⟨rfl, rfl⟩
                    · cases h
                · cases h
              · cases h
          · cases h
    · cases h
  · rw [if_neg hc1] at h
    refine px_blk (i' := 10) (L' := [some (.ref 28), some (.int a0), some (.ref 44), some (.int a1), none, none]) (S' := [.int a1, .ref 44, .int ((19 : Int32) + a0), .int (0 : Int32), .ref 28]) (w' := px_w K s t) (q := []) 7 hM rfl trivial ?_
    rcases px_bv_some h with ⟨s269, t270, hk271, h⟩ | ⟨x273, s269, t270, hk271, h⟩
    · refine px_E_call hM rfl rfl rfl rfl (px_E_mono (by decide) (e_M_write_28_44 K N (0 : Int32) ((19 : Int32) + a0) a1 s t _ hk271)) ?_
      cases h
      exact px_E_ret hM rfl rfl rfl trivial
    · cases h
