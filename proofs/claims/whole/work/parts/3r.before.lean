/-! THE WORLD BEFORE THE LAW HAS ITS OWN ARRAY. -/
def px_v (K : px_K) (s : px_S) (t : px_W) : px_W :=
  .inl (0, K.1, .inl K.2.1) ::
  .inr (0, [.ref 2, .ref 3, .ref 8, .ref 13, .ref 22]) ::
  .inr (1, [.int (s.1 0), .long (s.2.1 0), .long (s.2.1 1), .long (s.2.1 2)]) ::
  .inr (2, [.ref 2, .int (s.1 1), .ref 6, .ref 7, .ref 4, .ref 5, .int (s.1 2), .int (s.1 3), .int (s.1 4), .int (s.1 5)]) ::
  .inl (0, K.2.2 4, .inl (s.2.2.1 4)) ::
  .inl (0, K.2.2 5, .inl (s.2.2.1 5)) ::
  .inl (0, K.2.2 6, .inl (s.2.2.1 6)) ::
  .inl (0, K.2.2 7, .inl (s.2.2.1 7)) ::
  .inr (2, [.ref 2, .int (s.1 6), .ref 11, .ref 12, .ref 9, .ref 10, .int (s.1 7), .int (s.1 8), .int (s.1 9), .int (s.1 10)]) ::
  .inl (0, K.2.2 9, .inl (s.2.2.1 9)) ::
  .inl (0, K.2.2 10, .inl (s.2.2.1 10)) ::
  .inl (0, K.2.2 11, .inl (s.2.2.1 11)) ::
  .inl (0, K.2.2 12, .inl (s.2.2.1 12)) ::
  .inr (4, [.ref 3, .ref 8, .ref 14, .int (s.1 11), .ref 20, .ref 21, .int (s.1 12), .int (s.1 13), .int (s.1 14), .int (s.1 15), .int (s.1 16), .int (s.1 17)]) ::
  .inr (3, [.int (s.1 18), .int (s.1 19), .int (s.1 20), .ref 15, .ref 16, .ref 17, .ref 18, .ref 19]) ::
  .inl (0, K.2.2 15, .inl (s.2.2.1 15)) ::
  .inl (0, K.2.2 16, .inl (s.2.2.1 16)) ::
  .inl (0, K.2.2 17, .inl (s.2.2.1 17)) ::
  .inl (0, K.2.2 18, .inl (s.2.2.1 18)) ::
  .inl (0, K.2.2 19, .inl (s.2.2.1 19)) ::
  .inl (0, K.2.2 20, .inl (s.2.2.1 20)) ::
  .inl (0, K.2.2 21, .inl (s.2.2.1 21)) ::
  .inr (5, [.ref 13, .ref 23, .ref 24, .ref 25, .ref 26, .ref 27, .int (s.1 21), .int (s.1 22), .int (s.1 23), .int (s.1 24)]) ::
  .inl (0, K.2.2 23, .inl (s.2.2.1 23)) ::
  .inl (0, K.2.2 24, .inl (s.2.2.1 24)) ::
  .inl (1, K.2.2 25, .inl (s.2.2.1 25)) ::
  .inl (1, K.2.2 26, .inl (s.2.2.1 26)) ::
  .inl (0, K.2.2 27, .inl (s.2.2.1 27)) ::
  .inr (6, [.int (s.1 25), .int (s.1 26), .int (s.1 27), .int (s.1 28), .ref 29, .ref 30, .ref 31, .ref 32, .ref 33, .ref 34, .int (s.1 29), .int (s.1 30), .long (s.2.1 3), .int (s.1 31), .ref 35, .ref 36, .ref 37, .ref 38, .int (s.1 32), .int (s.1 33), .int (s.1 34), .int (s.1 35), .ref 39, .ref 40, .ref 41, .ref 42, .int (s.1 36), .int (s.1 37), .ref 43, .ref 44, .ref 45]) ::
  .inl (0, K.2.2 29, .inl (s.2.2.1 29)) ::
  .inl (0, K.2.2 30, .inl (s.2.2.1 30)) ::
  .inl (0, K.2.2 31, .inl (s.2.2.1 31)) ::
  .inl (0, K.2.2 32, .inl (s.2.2.1 32)) ::
  .inl (0, K.2.2 33, .inl (s.2.2.1 33)) ::
  .inl (0, K.2.2 34, .inl (s.2.2.1 34)) ::
  .inl (0, K.2.2 35, .inl (s.2.2.1 35)) ::
  .inl (0, K.2.2 36, .inl (s.2.2.1 36)) ::
  .inl (1, K.2.2 37, .inl (s.2.2.1 37)) ::
  .inl (0, K.2.2 38, .inl (s.2.2.1 38)) ::
  .inl (0, K.2.2 39, .inl (s.2.2.1 39)) ::
  .inl (0, K.2.2 40, .inl (s.2.2.1 40)) ::
  .inl (1, K.2.2 41, .inl (s.2.2.1 41)) ::
  .inl (1, K.2.2 42, .inl (s.2.2.1 42)) ::
  .inl (0, K.2.2 43, .inl (s.2.2.1 43)) ::
  .inl (0, K.2.2 44, .inl (s.2.2.1 44)) ::
  .inl (0, K.2.2 45, .inl (s.2.2.1 45)) ::
  t
set_option maxRecDepth 100000 in
theorem ve_M_at (K : px_K) (N : Nat) (a0 : Int32) (a1 : Int32) (s : px_S) (t : px_W) (r : px_Res) (h : f_M_at K N a0 a1 s t = some r) : px_E px_ET px_P 1 25 0 (px_ent 2 [.int a0, .int a1]) [] (px_v K s t) r.1 (px_v K r.2.1 r.2.2) := by
  have hM : px_P[25]? = some pm_M_at := rfl
  unfold f_M_at at h
  refine px_blk (i' := 2) (L' := [some (.int a0), some (.int a1)]) (S' := [.int a0, .int (16 : Int32)]) (w' := px_v K s t) (q := []) 2 hM rfl trivial ?_
  have hK : px_E px_ET px_P 1 25 8 [some (.int a0), some (.int a1)] [.int (if ¬ a0 = 0 then ((125 : Int32) + a1) else a1), .int (16 : Int32)] (px_v K s t) r.1 (px_v K r.2.1 r.2.2) := by
    refine px_blk (i' := 9) (L' := [some (.int a0), some (.int a1)]) (S' := [.int ((16 : Int32) * (if ¬ a0 = 0 then ((125 : Int32) + a1) else a1))]) (w' := px_v K s t) (q := []) 1 hM rfl trivial ?_
    cases h
    exact px_E_ret hM rfl rfl rfl trivial
  clear h
  refine px_blkif (c := ¬ a0 = 0) (t := 5) (e := 3) (L' := [some (.int a0), some (.int a1)]) (S' := [.int (16 : Int32)]) (w' := px_v K s t) (q := []) 1 hM rfl trivial (fun hc1 => ?_) (fun hc1 => ?_)
  · rw [if_pos hc1] at hK
    exact px_blk (i' := 8) (L' := [some (.int a0), some (.int a1)]) (S' := [.int ((125 : Int32) + a1), .int (16 : Int32)]) (w' := px_v K s t) (q := []) 3 hM rfl trivial hK
  · rw [if_neg hc1] at hK
    exact px_blk (i' := 8) (L' := [some (.int a0), some (.int a1)]) (S' := [.int a1, .int (16 : Int32)]) (w' := px_v K s t) (q := []) 2 hM rfl trivial hK
def av_l_M_read_28_11 (K : px_K) (u1 : Int32) (u2 : Int32) (u3 : Int32) (z : px_LO) (o : Option Value ⊕ Nat) (w2 : px_W) : Prop := match z with
  | .inr (o', s', t') => o = o' ∧ w2 = px_v K s' t'
  | .inl (22, [y4], s', t') => px_E px_ET px_P 2 31 22 [some (.ref 28), none, none, some (.int u3), some (.int y4)] [] (px_v K s' t') o w2
  | .inl (33, [], s', t') => px_E px_ET px_P 2 31 33 [some (.ref 28), some (.int u1), some (.int u2), some (.int u3), none] [] (px_v K s' t') o w2
  | _ => False
set_option maxRecDepth 100000 in
theorem ve_l_M_read_28_11 (K : px_K) (N : Nat) (u1 : Int32) (u2 : Int32) (u3 : Int32) : ∀ (n : Nat) (m4 : Int32) (s : px_S) (t : px_W) (z : px_LO), l_M_read_28_11 K N n u1 u2 u3 m4 s t = some z → ∀ (o : Option Value ⊕ Nat) (w2 : px_W), av_l_M_read_28_11 K u1 u2 u3 z o w2 → px_E px_ET px_P 2 31 11 [some (.ref 28), some (.int u1), some (.int u2), some (.int u3), some (.int m4)] [] (px_v K s t) o w2 := by
  have hM : px_P[31]? = some pm_M_read := rfl
  intro n
  induction n with
  | zero => intro m4 s t z h; cases h
  | succ n ih =>
    intro m4 s t z h o w2 ha
    unfold l_M_read_28_11 at h
    refine px_blkif (c := m4 < ((64 : Int32) * u1)) (t := 33) (e := 16) (L' := [some (.ref 28), some (.int u1), some (.int u2), some (.int u3), some (.int m4)]) (S' := []) (w' := px_v K s t) (q := []) 5 hM rfl trivial (fun hc1 => ?_) (fun hc1 => ?_)
    · rw [if_pos hc1] at h
      cases h
      exact px_E_le (px_leC_L _ _ (by simp [px_leC, px_le1, Value.category])) ha
    · rw [if_neg hc1] at h
      obtain ⟨hq2, h⟩ := px_gd_some h
      refine px_blkif (c := ¬ ((s.2.2.1 31) m4.toNatClampNeg) = u2) (t := 31) (e := 22) (L' := [some (.ref 28), some (.int u1), some (.int u2), some (.int u3), some (.int m4)]) (S' := []) (w' := px_v K s t) (q := [vp_in m4 (K.2.2 31)]) 6 hM rfl (show vp_in m4 (K.2.2 31) from hq2) (fun hc3 => ?_) (fun hc3 => ?_)
      · rw [if_pos hc3] at h
        refine px_blk (i' := 32) (L' := [some (.ref 28), some (.int u1), some (.int u2), some (.int u3), some (.int (m4 + (-1 : Int32)))]) (S' := []) (w' := px_v K s t) (q := []) 1 hM rfl trivial ?_
        obtain ⟨v4, hv5, h⟩ := px_let_some h
        rw [← hv5]
        refine px_blk (i' := 11) (L' := [some (.ref 28), some (.int u1), some (.int u2), some (.int u3), some (.int v4)]) (S' := []) (w' := px_v K s t) (q := []) 1 hM rfl trivial ?_
        exact ih v4 s t z h o w2 ha
      · rw [if_neg hc3] at h
        cases h
        exact px_E_le (px_leC_L _ _ (by simp [px_leC, px_le1, Value.category])) ha
set_option maxRecDepth 100000 in
theorem ve_M_read_28 (K : px_K) (N : Nat) (a0 : Int32) (a1 : Int32) (a2 : Int32) (s : px_S) (t : px_W) (r : px_Res) (h : f_M_read_28 K N a0 a1 a2 s t = some r) : px_E px_ET px_P 2 31 0 (px_ent 5 [.ref 28, .int a0, .int a1, .int a2]) [] (px_v K s t) r.1 (px_v K r.2.1 r.2.2) := by
  have hM : px_P[31]? = some pm_M_read := rfl
  unfold f_M_read_28 at h
  obtain ⟨hq1, h⟩ := px_gd_some h
  refine px_blk (i' := 11) (L' := [some (.ref 28), some (.int a0), some (.int a1), some (.int a2), some (.int ((((64 : Int32) * a0) + ((s.2.2.1 30) a0.toNatClampNeg)) - (1 : Int32)))]) (S' := []) (w' := px_v K s t) (q := [vp_in a0 (K.2.2 30)]) 11 hM rfl (show vp_in a0 (K.2.2 30) from hq1) ?_
  obtain ⟨v2, hv3, h⟩ := px_let_some h
  rw [← hv3]
  rcases px_lp_some h with ⟨i4, vs5, s6, t7, hl8, h⟩ | ⟨z9, hl8, h⟩
  · by_cases hi11 : i4 = 22
    · subst hi11
      rw [if_pos rfl] at h
      have h9 := px_v1_some h
      clear h
      obtain ⟨y10, rfl, h⟩ := h9
      refine ve_l_M_read_28_11 K N a0 a1 a2 N v2 s t _ hl8 _ _ ?_
      show px_E px_ET px_P 2 31 22 [some (.ref 28), none, none, some (.int a2), some (.int y10)] [] (px_v K s6 t7) _ _
      obtain ⟨hq12, h⟩ := px_gd_some h
      refine px_blk (i' := 30) (L' := [some (.ref 28), none, none, some (.int a2), some (.int y10)]) (S' := [.int ((s6.2.2.1 32) (((16 : Int32) * y10) + a2).toNatClampNeg)]) (w' := px_v K s6 t7) (q := [vp_in (((16 : Int32) * y10) + a2) (K.2.2 32)]) 8 hM rfl (show vp_in (((16 : Int32) * y10) + a2) (K.2.2 32) from hq12) ?_
      cases h
      exact px_E_ret hM rfl rfl rfl trivial
    · rw [if_neg hi11] at h
      by_cases hi13 : i4 = 33
      · subst hi13
        rw [if_pos rfl] at h
        have h9 := px_v0_some h
        clear h
        obtain ⟨rfl, h⟩ := h9
        refine ve_l_M_read_28_11 K N a0 a1 a2 N v2 s t _ hl8 _ _ ?_
        show px_E px_ET px_P 2 31 33 [some (.ref 28), some (.int a0), some (.int a1), some (.int a2), none] [] (px_v K s6 t7) _ _
        refine px_blk (i' := 37) (L' := [some (.ref 28), some (.int a0), some (.int a1), some (.int a2), none]) (S' := [.int a1, .int a0, .ref 29]) (w' := px_v K s6 t7) (q := []) 4 hM rfl trivial ?_
        rcases px_bi_some h with ⟨v17, s14, t15, hk16, h⟩ | ⟨x18, s14, t15, hk16, h⟩
        · refine px_E_call hM rfl rfl rfl rfl (px_E_mono (by decide) (ve_M_at K N a0 a1 s6 t7 _ hk16)) ?_
          obtain ⟨hq19, h⟩ := px_gd_some h
          refine px_blk (i' := 41) (L' := [some (.ref 28), some (.int a0), some (.int a1), some (.int a2), none]) (S' := [.int ((s14.2.2.1 29) (v17 + a2).toNatClampNeg)]) (w' := px_v K s14 t15) (q := [vp_in (v17 + a2) (K.2.2 29)]) 3 hM rfl (show vp_in (v17 + a2) (K.2.2 29) from hq19) ?_
          cases h
          exact px_E_ret hM rfl rfl rfl trivial
        · cases h
      · rw [if_neg hi13] at h
        cases h
  · cases h
    exact ve_l_M_read_28_11 K N a0 a1 a2 N v2 s t _ hl8 _ _ ⟨rfl, rfl⟩
def av_l_M_newest_28_4 (K : px_K) (u1 : Int32) (z : px_LO) (o : Option Value ⊕ Nat) (w2 : px_W) : Prop := match z with
  | .inr (o', s', t') => o = o' ∧ w2 = px_v K s' t'
  | .inl (32, [y2], s', t') => px_E px_ET px_P 1 36 32 [none, none, some (.int y2), none] [] (px_v K s' t') o w2
  | _ => False
set_option maxRecDepth 100000 in
theorem ve_l_M_newest_28_4 (K : px_K) (N : Nat) (u1 : Int32) : ∀ (n : Nat) (m2 : Int32) (m3 : Int32) (s : px_S) (t : px_W) (z : px_LO), l_M_newest_28_4 K N n u1 m2 m3 s t = some z → ∀ (o : Option Value ⊕ Nat) (w2 : px_W), av_l_M_newest_28_4 K u1 z o w2 → px_E px_ET px_P 1 36 4 [some (.ref 28), some (.int u1), some (.int m2), some (.int m3)] [] (px_v K s t) o w2 := by
  have hM : px_P[36]? = some pm_M_newest := rfl
  intro n
  induction n with
  | zero => intro m2 m3 s t z h; cases h
  | succ n ih =>
    intro m2 m3 s t z h o w2 ha
    unfold l_M_newest_28_4 at h
    refine px_blkif (c := ((s.1 26) * (s.1 27)) ≤ m3) (t := 32) (e := 11) (L' := [some (.ref 28), some (.int u1), some (.int m2), some (.int m3)]) (S' := []) (w' := px_v K s t) (q := []) 7 hM rfl trivial (fun hc1 => ?_) (fun hc1 => ?_)
    · rw [if_pos hc1] at h
      cases h
      exact px_E_le (px_leC_L _ _ (by simp [px_leC, px_le1, Value.category])) ha
    · rw [if_neg hc1] at h
      obtain ⟨hq2, h⟩ := px_gd_some h
      refine px_blkif (c := ¬ ((s.2.2.1 35) m3.toNatClampNeg) = u1) (t := 30) (e := 17) (L' := [some (.ref 28), some (.int u1), some (.int m2), some (.int m3)]) (S' := []) (w' := px_v K s t) (q := [vp_in m3 (K.2.2 35)]) 6 hM rfl (show vp_in m3 (K.2.2 35) from hq2) (fun hc3 => ?_) (fun hc3 => ?_)
      · rw [if_pos hc3] at h
        refine px_blk (i' := 4) (L' := [some (.ref 28), some (.int u1), some (.int m2), some (.int (m3 + (1 : Int32)))]) (S' := []) (w' := px_v K s t) (q := []) 2 hM rfl trivial ?_
        exact ih m2 (m3 + (1 : Int32)) s t z h o w2 ha
      · rw [if_neg hc3] at h
        refine px_blkif (c := m2 < 0) (t := 28) (e := 19) (L' := [some (.ref 28), some (.int u1), some (.int m2), some (.int m3)]) (S' := []) (w' := px_v K s t) (q := []) 2 hM rfl trivial (fun hc4 => ?_) (fun hc4 => ?_)
        · rw [if_pos hc4] at h
          refine px_blk (i' := 4) (L' := [some (.ref 28), some (.int u1), some (.int m3), some (.int (m3 + (1 : Int32)))]) (S' := []) (w' := px_v K s t) (q := []) 4 hM rfl trivial ?_
          exact ih m3 (m3 + (1 : Int32)) s t z h o w2 ha
        · rw [if_neg hc4] at h
          obtain ⟨⟨hq5, hq6⟩, h⟩ := px_gd_some h
          refine px_blkif (c := ((s.2.2.1 36) m3.toNatClampNeg) ≤ ((s.2.2.1 36) m2.toNatClampNeg)) (t := 30) (e := 28) (L' := [some (.ref 28), some (.int u1), some (.int m2), some (.int m3)]) (S' := []) (w' := px_v K s t) (q := [vp_in m3 (K.2.2 36), vp_in m2 (K.2.2 36)]) 9 hM rfl (show (vp_in m3 (K.2.2 36)) ∧ (vp_in m2 (K.2.2 36)) from ⟨hq5, hq6⟩) (fun hc7 => ?_) (fun hc7 => ?_)
          · rw [if_pos hc7] at h
            refine px_blk (i' := 4) (L' := [some (.ref 28), some (.int u1), some (.int m2), some (.int (m3 + (1 : Int32)))]) (S' := []) (w' := px_v K s t) (q := []) 2 hM rfl trivial ?_
            exact ih m2 (m3 + (1 : Int32)) s t z h o w2 ha
          · rw [if_neg hc7] at h
            refine px_blk (i' := 4) (L' := [some (.ref 28), some (.int u1), some (.int m3), some (.int (m3 + (1 : Int32)))]) (S' := []) (w' := px_v K s t) (q := []) 4 hM rfl trivial ?_
            exact ih m3 (m3 + (1 : Int32)) s t z h o w2 ha
set_option maxRecDepth 100000 in
theorem ve_M_newest_28 (K : px_K) (N : Nat) (a0 : Int32) (s : px_S) (t : px_W) (r : px_Res) (h : f_M_newest_28 K N a0 s t = some r) : px_E px_ET px_P 1 36 0 (px_ent 4 [.ref 28, .int a0]) [] (px_v K s t) r.1 (px_v K r.2.1 r.2.2) := by
  have hM : px_P[36]? = some pm_M_newest := rfl
  unfold f_M_newest_28 at h
  refine px_blk (i' := 4) (L' := [some (.ref 28), some (.int a0), some (.int (-1 : Int32)), some (.int (0 : Int32))]) (S' := []) (w' := px_v K s t) (q := []) 4 hM rfl trivial ?_
  rcases px_lp_some h with ⟨i1, vs2, s3, t4, hl5, h⟩ | ⟨z6, hl5, h⟩
  · by_cases hi8 : i1 = 32
    · subst hi8
      rw [if_pos rfl] at h
      have h9 := px_v1_some h
      clear h
      obtain ⟨y7, rfl, h⟩ := h9
      refine ve_l_M_newest_28_4 K N a0 N (-1 : Int32) (0 : Int32) s t _ hl5 _ _ ?_
      show px_E px_ET px_P 1 36 32 [none, none, some (.int y7), none] [] (px_v K s3 t4) _ _
      refine px_blk (i' := 33) (L' := [none, none, some (.int y7), none]) (S' := [.int y7]) (w' := px_v K s3 t4) (q := []) 1 hM rfl trivial ?_
      cases h
      exact px_E_ret hM rfl rfl rfl trivial
    · rw [if_neg hi8] at h
      cases h
  · cases h
    exact ve_l_M_newest_28_4 K N a0 N (-1 : Int32) (0 : Int32) s t _ hl5 _ _ ⟨rfl, rfl⟩
set_option maxRecDepth 100000 in
theorem ve_M_wordThere_28 (K : px_K) (N : Nat) (a0 : Int32) (a1 : Int32) (s : px_S) (t : px_W) (r : px_Res) (h : f_M_wordThere_28 K N a0 a1 s t = some r) : px_E px_ET px_P 3 101 0 (px_ent 4 [.ref 28, .int a0, .int a1]) [] (px_v K s t) r.1 (px_v K r.2.1 r.2.2) := by
  have hM : px_P[101]? = some pm_M_wordThere := rfl
  unfold f_M_wordThere_28 at h
  refine px_blkif (c := (s.1 31) = 0) (t := 7) (e := 3) (L' := [some (.ref 28), some (.int a0), some (.int a1), none]) (S' := []) (w' := px_v K s t) (q := []) 3 hM rfl trivial (fun hc1 => ?_) (fun hc1 => ?_)
  · rw [if_pos hc1] at h
    refine px_blkif (c := (-1 : Int32) < 0) (t := 19) (e := 11) (L' := [some (.ref 28), some (.int a0), some (.int a1), some (.int (-1 : Int32))]) (S' := []) (w' := px_v K s t) (q := []) 4 hM rfl trivial (fun hc2 => ?_) (fun hc2 => ?_)
    · rw [if_pos hc2] at h
      refine px_blk (i' := 25) (L' := [some (.ref 28), some (.int a0), some (.int a1), some (.int (-1 : Int32))]) (S' := [.int a1, .int ((19 : Int32) + a0), .int (0 : Int32), .ref 28]) (w' := px_v K s t) (q := []) 6 hM rfl trivial ?_
      rcases px_bi_some h with ⟨v6, s3, t4, hk5, h⟩ | ⟨x7, s3, t4, hk5, h⟩
      · refine px_E_call hM rfl rfl rfl rfl (px_E_mono (by decide) (ve_M_read_28 K N (0 : Int32) ((19 : Int32) + a0) a1 s t _ hk5)) ?_
        cases h
        exact px_E_ret hM rfl rfl rfl trivial
      · cases h
    · rw [if_neg hc2] at h
      refine px_blk (i' := 17) (L' := [some (.ref 28), some (.int a0), some (.int a1), some (.int (-1 : Int32))]) (S' := [.int a1, .int ((50 : Int32) + (-1 : Int32)), .int (1 : Int32), .ref 28]) (w' := px_v K s t) (q := []) 6 hM rfl trivial ?_
      rcases px_bi_some h with ⟨v11, s8, t9, hk10, h⟩ | ⟨x12, s8, t9, hk10, h⟩
      · refine px_E_call hM rfl rfl rfl rfl (px_E_mono (by decide) (ve_M_read_28 K N (1 : Int32) ((50 : Int32) + (-1 : Int32)) a1 s t _ hk10)) ?_
        refine px_blk (i' := 26) (L' := [some (.ref 28), some (.int a0), some (.int a1), some (.int (-1 : Int32))]) (S' := [.int v11]) (w' := px_v K s8 t9) (q := []) 1 hM rfl trivial ?_
        cases h
        exact px_E_ret hM rfl rfl rfl trivial
      · cases h
  · rw [if_neg hc1] at h
    refine px_blk (i' := 5) (L' := [some (.ref 28), some (.int a0), some (.int a1), none]) (S' := [.int a0, .ref 28]) (w' := px_v K s t) (q := []) 2 hM rfl trivial ?_
    rcases px_bi_some h with ⟨v16, s13, t14, hk15, h⟩ | ⟨x17, s13, t14, hk15, h⟩
    · refine px_E_call hM rfl rfl rfl rfl (px_E_mono (by decide) (ve_M_newest_28 K N a0 s t _ hk15)) ?_
      refine px_blkif (c := v16 < 0) (t := 19) (e := 11) (L' := [some (.ref 28), some (.int a0), some (.int a1), some (.int v16)]) (S' := []) (w' := px_v K s13 t14) (q := []) 4 hM rfl trivial (fun hc18 => ?_) (fun hc18 => ?_)
      · rw [if_pos hc18] at h
        refine px_blk (i' := 25) (L' := [some (.ref 28), some (.int a0), some (.int a1), some (.int v16)]) (S' := [.int a1, .int ((19 : Int32) + a0), .int (0 : Int32), .ref 28]) (w' := px_v K s13 t14) (q := []) 6 hM rfl trivial ?_
        rcases px_bi_some h with ⟨v22, s19, t20, hk21, h⟩ | ⟨x23, s19, t20, hk21, h⟩
        · refine px_E_call hM rfl rfl rfl rfl (px_E_mono (by decide) (ve_M_read_28 K N (0 : Int32) ((19 : Int32) + a0) a1 s13 t14 _ hk21)) ?_
          cases h
          exact px_E_ret hM rfl rfl rfl trivial
        · cases h
      · rw [if_neg hc18] at h
        refine px_blk (i' := 17) (L' := [some (.ref 28), some (.int a0), some (.int a1), some (.int v16)]) (S' := [.int a1, .int ((50 : Int32) + v16), .int (1 : Int32), .ref 28]) (w' := px_v K s13 t14) (q := []) 6 hM rfl trivial ?_
        rcases px_bi_some h with ⟨v27, s24, t25, hk26, h⟩ | ⟨x28, s24, t25, hk26, h⟩
        · refine px_E_call hM rfl rfl rfl rfl (px_E_mono (by decide) (ve_M_read_28 K N (1 : Int32) ((50 : Int32) + v16) a1 s13 t14 _ hk26)) ?_
          refine px_blk (i' := 26) (L' := [some (.ref 28), some (.int a0), some (.int a1), some (.int v16)]) (S' := [.int v27]) (w' := px_v K s24 t25) (q := []) 1 hM rfl trivial ?_
          cases h
          exact px_E_ret hM rfl rfl rfl trivial
        · cases h
    · cases h
set_option maxRecDepth 100000 in
theorem ve_M_word_28 (K : px_K) (N : Nat) (a0 : Int32) (a1 : Int32) (s : px_S) (t : px_W) (r : px_Res) (h : f_M_word_28 K N a0 a1 s t = some r) : px_E px_ET px_P 1 49 0 (px_ent 3 [.ref 28, .int a0, .int a1]) [] (px_v K s t) r.1 (px_v K r.2.1 r.2.2) := by
  have hM : px_P[49]? = some pm_M_word := rfl
  unfold f_M_word_28 at h
  obtain ⟨hq1, h⟩ := px_gd_some h
  refine px_blk (i' := 8) (L' := [some (.ref 28), some (.int a0), some (.int a1)]) (S' := [.int ((s.2.2.1 39) (((16 : Int32) * a0) + a1).toNatClampNeg)]) (w' := px_v K s t) (q := [vp_in (((16 : Int32) * a0) + a1) (K.2.2 39)]) 8 hM rfl (show vp_in (((16 : Int32) * a0) + a1) (K.2.2 39) from hq1) ?_
  cases h
  exact px_E_ret hM rfl rfl rfl trivial
set_option maxRecDepth 100000 in
theorem ve_M_isCommit_28 (K : px_K) (N : Nat) (a0 : Int32) (s : px_S) (t : px_W) (r : px_Res) (h : f_M_isCommit_28 K N a0 s t = some r) : px_E px_ET px_P 2 103 0 (px_ent 3 [.ref 28, .int a0]) [] (px_v K s t) r.1 (px_v K r.2.1 r.2.2) := by
  have hM : px_P[103]? = some pm_M_isCommit := rfl
  unfold f_M_isCommit_28 at h
  refine px_blkif (c := (28 : Int32) < (a0 + (2 : Int32))) (t := 18) (e := 5) (L' := [some (.ref 28), some (.int a0), none]) (S' := []) (w' := px_v K s t) (q := []) 5 hM rfl trivial (fun hc1 => ?_) (fun hc1 => ?_)
  · rw [if_pos hc1] at h
    refine px_blk (i' := 19) (L' := [some (.ref 28), some (.int a0), none]) (S' := [.int (0 : Int32)]) (w' := px_v K s t) (q := []) 1 hM rfl trivial ?_
    cases h
    exact px_E_ret hM rfl rfl rfl (show (0 : Int32) = 0 ∨ (0 : Int32) = 1 from Or.inl rfl)
  · rw [if_neg hc1] at h
    refine px_blk (i' := 8) (L' := [some (.ref 28), some (.int a0), none]) (S' := [.int (0 : Int32), .int a0, .ref 28]) (w' := px_v K s t) (q := []) 3 hM rfl trivial ?_
    rcases px_bi_some h with ⟨v5, s2, t3, hk4, h⟩ | ⟨x6, s2, t3, hk4, h⟩
    · refine px_E_call hM rfl rfl rfl rfl (px_E_mono (by decide) (ve_M_word_28 K N a0 (0 : Int32) s t _ hk4)) ?_
      refine px_blkif (c := ¬ v5 = (1 : Int32)) (t := 18) (e := 11) (L' := [some (.ref 28), some (.int a0), none]) (S' := []) (w' := px_v K s2 t3) (q := []) 2 hM rfl trivial (fun hc7 => ?_) (fun hc7 => ?_)
      · rw [if_pos hc7] at h
        refine px_blk (i' := 19) (L' := [some (.ref 28), some (.int a0), none]) (S' := [.int (0 : Int32)]) (w' := px_v K s2 t3) (q := []) 1 hM rfl trivial ?_
        cases h
        exact px_E_ret hM rfl rfl rfl (show (0 : Int32) = 0 ∨ (0 : Int32) = 1 from Or.inl rfl)
      · rw [if_neg hc7] at h
        refine px_blk (i' := 14) (L' := [some (.ref 28), some (.int a0), none]) (S' := [.int (1 : Int32), .int a0, .ref 28]) (w' := px_v K s2 t3) (q := []) 3 hM rfl trivial ?_
        rcases px_bi_some h with ⟨v11, s8, t9, hk10, h⟩ | ⟨x12, s8, t9, hk10, h⟩
        · refine px_E_call hM rfl rfl rfl rfl (px_E_mono (by decide) (ve_M_word_28 K N a0 (1 : Int32) s2 t3 _ hk10)) ?_
          refine px_blkif (c := v11 = (s8.1 36)) (t := 20) (e := 18) (L' := [some (.ref 28), some (.int a0), none]) (S' := []) (w' := px_v K s8 t9) (q := []) 3 hM rfl trivial (fun hc13 => ?_) (fun hc13 => ?_)
          · rw [if_pos hc13] at h
            refine px_blk (i' := 23) (L' := [some (.ref 28), some (.int a0), none]) (S' := [.int (2 : Int32), .int a0, .ref 28]) (w' := px_v K s8 t9) (q := []) 3 hM rfl trivial ?_
            rcases px_bi_some h with ⟨v17, s14, t15, hk16, h⟩ | ⟨x18, s14, t15, hk16, h⟩
            · refine px_E_call hM rfl rfl rfl rfl (px_E_mono (by decide) (ve_M_word_28 K N a0 (2 : Int32) s8 t9 _ hk16)) ?_
              refine px_blkif (c := v17 < (1 : Int32)) (t := 61) (e := 28) (L' := [some (.ref 28), some (.int a0), some (.int v17)]) (S' := []) (w' := px_v K s14 t15) (q := []) 4 hM rfl trivial (fun hc19 => ?_) (fun hc19 => ?_)
              · rw [if_pos hc19] at h
                refine px_blk (i' := 62) (L' := [some (.ref 28), some (.int a0), some (.int v17)]) (S' := [.int (0 : Int32)]) (w' := px_v K s14 t15) (q := []) 1 hM rfl trivial ?_
                cases h
                exact px_E_ret hM rfl rfl rfl (show (0 : Int32) = 0 ∨ (0 : Int32) = 1 from Or.inl rfl)
              · rw [if_neg hc19] at h
                refine px_blkif (c := (12 : Int32) < v17) (t := 61) (e := 31) (L' := [some (.ref 28), some (.int a0), some (.int v17)]) (S' := []) (w' := px_v K s14 t15) (q := []) 3 hM rfl trivial (fun hc20 => ?_) (fun hc20 => ?_)
                · rw [if_pos hc20] at h
                  refine px_blk (i' := 62) (L' := [some (.ref 28), some (.int a0), some (.int v17)]) (S' := [.int (0 : Int32)]) (w' := px_v K s14 t15) (q := []) 1 hM rfl trivial ?_
                  cases h
                  exact px_E_ret hM rfl rfl rfl (show (0 : Int32) = 0 ∨ (0 : Int32) = 1 from Or.inl rfl)
                · rw [if_neg hc20] at h
                  refine px_blkif (c := (28 : Int32) < ((a0 + v17) + (1 : Int32))) (t := 61) (e := 38) (L' := [some (.ref 28), some (.int a0), some (.int v17)]) (S' := []) (w' := px_v K s14 t15) (q := []) 7 hM rfl trivial (fun hc21 => ?_) (fun hc21 => ?_)
                  · rw [if_pos hc21] at h
                    refine px_blk (i' := 62) (L' := [some (.ref 28), some (.int a0), some (.int v17)]) (S' := [.int (0 : Int32)]) (w' := px_v K s14 t15) (q := []) 1 hM rfl trivial ?_
                    cases h
                    exact px_E_ret hM rfl rfl rfl (show (0 : Int32) = 0 ∨ (0 : Int32) = 1 from Or.inl rfl)
                  · rw [if_neg hc21] at h
                    refine px_blk (i' := 45) (L' := [some (.ref 28), some (.int a0), some (.int v17)]) (S' := [.int (0 : Int32), .int ((a0 + v17) + (1 : Int32)), .ref 28]) (w' := px_v K s14 t15) (q := []) 7 hM rfl trivial ?_
                    rcases px_bi_some h with ⟨v25, s22, t23, hk24, h⟩ | ⟨x26, s22, t23, hk24, h⟩
                    · refine px_E_call hM rfl rfl rfl rfl (px_E_mono (by decide) (ve_M_word_28 K N ((a0 + v17) + (1 : Int32)) (0 : Int32) s14 t15 _ hk24)) ?_
                      refine px_blkif (c := ¬ v25 = (2 : Int32)) (t := 61) (e := 48) (L' := [some (.ref 28), some (.int a0), some (.int v17)]) (S' := []) (w' := px_v K s22 t23) (q := []) 2 hM rfl trivial (fun hc27 => ?_) (fun hc27 => ?_)
                      · rw [if_pos hc27] at h
                        refine px_blk (i' := 62) (L' := [some (.ref 28), some (.int a0), some (.int v17)]) (S' := [.int (0 : Int32)]) (w' := px_v K s22 t23) (q := []) 1 hM rfl trivial ?_
                        cases h
                        exact px_E_ret hM rfl rfl rfl (show (0 : Int32) = 0 ∨ (0 : Int32) = 1 from Or.inl rfl)
                      · rw [if_neg hc27] at h
                        refine px_blk (i' := 55) (L' := [some (.ref 28), some (.int a0), some (.int v17)]) (S' := [.int (1 : Int32), .int ((a0 + v17) + (1 : Int32)), .ref 28]) (w' := px_v K s22 t23) (q := []) 7 hM rfl trivial ?_
                        rcases px_bi_some h with ⟨v31, s28, t29, hk30, h⟩ | ⟨x32, s28, t29, hk30, h⟩
                        · refine px_E_call hM rfl rfl rfl rfl (px_E_mono (by decide) (ve_M_word_28 K N ((a0 + v17) + (1 : Int32)) (1 : Int32) s22 t23 _ hk30)) ?_
                          refine px_blk (i' := 58) (L' := [some (.ref 28), some (.int a0), some (.int v17)]) (S' := [.int (s28.1 36), .int v31]) (w' := px_v K s28 t29) (q := []) 2 hM rfl trivial ?_
                          have hK : px_E px_ET px_P 2 103 62 [some (.ref 28), some (.int a0), some (.int v17)] [.int (if ¬ v31 = (s28.1 36) then (0 : Int32) else (1 : Int32))] (px_v K s28 t29) r.1 (px_v K r.2.1 r.2.2) := by
                            cases h
                            exact px_E_ret hM rfl rfl rfl (show (if ¬ v31 = (s28.1 36) then (0 : Int32) else (1 : Int32)) = 0 ∨ (if ¬ v31 = (s28.1 36) then (0 : Int32) else (1 : Int32)) = 1 from (by split <;> simp))
                          clear h
                          refine px_blkif (c := ¬ v31 = (s28.1 36)) (t := 61) (e := 59) (L' := [some (.ref 28), some (.int a0), some (.int v17)]) (S' := []) (w' := px_v K s28 t29) (q := []) 1 hM rfl trivial (fun hc33 => ?_) (fun hc33 => ?_)
                          · rw [if_pos hc33] at hK
                            exact px_blk (i' := 62) (L' := [some (.ref 28), some (.int a0), some (.int v17)]) (S' := [.int (0 : Int32)]) (w' := px_v K s28 t29) (q := []) 1 hM rfl trivial hK
                          · rw [if_neg hc33] at hK
                            exact px_blk (i' := 62) (L' := [some (.ref 28), some (.int a0), some (.int v17)]) (S' := [.int (1 : Int32)]) (w' := px_v K s28 t29) (q := []) 2 hM rfl trivial hK
                        · cases h
                    · cases h
            · cases h
          · rw [if_neg hc13] at h
            refine px_blk (i' := 19) (L' := [some (.ref 28), some (.int a0), none]) (S' := [.int (0 : Int32)]) (w' := px_v K s8 t9) (q := []) 1 hM rfl trivial ?_
            cases h
            exact px_E_ret hM rfl rfl rfl (show (0 : Int32) = 0 ∨ (0 : Int32) = 1 from Or.inl rfl)
        · cases h
    · cases h
def av_l_M_noSlots_28_2 (K : px_K) (z : px_LO) (o : Option Value ⊕ Nat) (w2 : px_W) : Prop := match z with
  | .inr (o', s', t') => o = o' ∧ w2 = px_v K s' t'
  | .inl (22, [], s', t') => px_E px_ET px_P 1 35 22 [some (.ref 28), none] [] (px_v K s' t') o w2
  | _ => False
def av_l_M_noSlots_28_24 (K : px_K) (z : px_LO) (o : Option Value ⊕ Nat) (w2 : px_W) : Prop := match z with
  | .inr (o', s', t') => o = o' ∧ w2 = px_v K s' t'
  | .inl (34, [], s', t') => px_E px_ET px_P 1 35 34 [none, none] [] (px_v K s' t') o w2
  | _ => False
set_option maxRecDepth 100000 in
theorem ve_l_M_noSlots_28_2 (K : px_K) (N : Nat) : ∀ (n : Nat) (m1 : Int32) (s : px_S) (t : px_W) (z : px_LO), l_M_noSlots_28_2 K N n m1 s t = some z → ∀ (o : Option Value ⊕ Nat) (w2 : px_W), av_l_M_noSlots_28_2 K z o w2 → px_E px_ET px_P 1 35 2 [some (.ref 28), some (.int m1)] [] (px_v K s t) o w2 := by
  have hM : px_P[35]? = some pm_M_noSlots := rfl
  intro n
  induction n with
  | zero => intro m1 s t z h; cases h
  | succ n ih =>
    intro m1 s t z h o w2 ha
    unfold l_M_noSlots_28_2 at h
    refine px_blkif (c := (64 : Int32) ≤ m1) (t := 22) (e := 5) (L' := [some (.ref 28), some (.int m1)]) (S' := []) (w' := px_v K s t) (q := []) 3 hM rfl trivial (fun hc1 => ?_) (fun hc1 => ?_)
    · rw [if_pos hc1] at h
      cases h
      exact px_E_le (px_leC_L _ _ (by simp [px_leC, px_le1, Value.category])) ha
    · rw [if_neg hc1] at h
      obtain ⟨hq2, h⟩ := px_gd_some h
      refine px_blk (i' := 10) (L' := [some (.ref 28), some (.int m1)]) (S' := []) (w' := px_v K (sA s 35 m1.toNatClampNeg (-1 : Int32)) t) (q := [vp_in m1 (K.2.2 35)]) 5 hM rfl (show vp_in m1 (K.2.2 35) from hq2) ?_
      obtain ⟨s3, hs4, h⟩ := px_let_some h
      rw [← hs4]
      obtain ⟨hq5, h⟩ := px_gd_some h
      refine px_blk (i' := 15) (L' := [some (.ref 28), some (.int m1)]) (S' := []) (w' := px_v K (sA s3 36 m1.toNatClampNeg (0 : Int32)) t) (q := [vp_in m1 (K.2.2 36)]) 5 hM rfl (show vp_in m1 (K.2.2 36) from hq5) ?_
      obtain ⟨s6, hs7, h⟩ := px_let_some h
      rw [← hs7]
      obtain ⟨hq8, h⟩ := px_gd_some h
      refine px_blk (i' := 20) (L' := [some (.ref 28), some (.int m1)]) (S' := []) (w' := px_v K (sA s6 37 m1.toNatClampNeg (0 : Int32)) t) (q := [vp_in m1 (K.2.2 37), (0 : Int32) = 0 ∨ (0 : Int32) = 1]) 5 hM rfl (show (vp_in m1 (K.2.2 37)) ∧ ((0 : Int32) = 0 ∨ (0 : Int32) = 1) from ⟨hq8, Or.inl rfl⟩) ?_
      obtain ⟨s9, hs10, h⟩ := px_let_some h
      rw [← hs10]
      refine px_blk (i' := 2) (L' := [some (.ref 28), some (.int (m1 + (1 : Int32)))]) (S' := []) (w' := px_v K s9 t) (q := []) 2 hM rfl trivial ?_
      exact ih (m1 + (1 : Int32)) s9 t z h o w2 ha
set_option maxRecDepth 100000 in
theorem ve_l_M_noSlots_28_24 (K : px_K) (N : Nat) : ∀ (n : Nat) (m1 : Int32) (s : px_S) (t : px_W) (z : px_LO), l_M_noSlots_28_24 K N n m1 s t = some z → ∀ (o : Option Value ⊕ Nat) (w2 : px_W), av_l_M_noSlots_28_24 K z o w2 → px_E px_ET px_P 1 35 24 [some (.ref 28), some (.int m1)] [] (px_v K s t) o w2 := by
  have hM : px_P[35]? = some pm_M_noSlots := rfl
  intro n
  induction n with
  | zero => intro m1 s t z h; cases h
  | succ n ih =>
    intro m1 s t z h o w2 ha
    unfold l_M_noSlots_28_24 at h
    refine px_blkif (c := (8 : Int32) ≤ m1) (t := 34) (e := 27) (L' := [some (.ref 28), some (.int m1)]) (S' := []) (w' := px_v K s t) (q := []) 3 hM rfl trivial (fun hc1 => ?_) (fun hc1 => ?_)
    · rw [if_pos hc1] at h
      cases h
      exact px_E_le (px_leC_L _ _ (by simp [px_leC, px_le1, Value.category])) ha
    · rw [if_neg hc1] at h
      obtain ⟨hq2, h⟩ := px_gd_some h
      refine px_blk (i' := 32) (L' := [some (.ref 28), some (.int m1)]) (S' := []) (w' := px_v K (sA s 38 m1.toNatClampNeg (0 : Int32)) t) (q := [vp_in m1 (K.2.2 38)]) 5 hM rfl (show vp_in m1 (K.2.2 38) from hq2) ?_
      obtain ⟨s3, hs4, h⟩ := px_let_some h
      rw [← hs4]
      refine px_blk (i' := 24) (L' := [some (.ref 28), some (.int (m1 + (1 : Int32)))]) (S' := []) (w' := px_v K s3 t) (q := []) 2 hM rfl trivial ?_
      exact ih (m1 + (1 : Int32)) s3 t z h o w2 ha
set_option maxRecDepth 100000 in
theorem ve_M_noSlots_28 (K : px_K) (N : Nat) (s : px_S) (t : px_W) (r : px_Res) (h : f_M_noSlots_28 K N s t = some r) : px_E px_ET px_P 1 35 0 (px_ent 2 [.ref 28]) [] (px_v K s t) r.1 (px_v K r.2.1 r.2.2) := by
  have hM : px_P[35]? = some pm_M_noSlots := rfl
  unfold f_M_noSlots_28 at h
  refine px_blk (i' := 2) (L' := [some (.ref 28), some (.int (0 : Int32))]) (S' := []) (w' := px_v K s t) (q := []) 2 hM rfl trivial ?_
  rcases px_lp_some h with ⟨i1, vs2, s3, t4, hl5, h⟩ | ⟨z6, hl5, h⟩
  · by_cases hi7 : i1 = 22
    · subst hi7
      rw [if_pos rfl] at h
      have h9 := px_v0_some h
      clear h
      obtain ⟨rfl, h⟩ := h9
      refine ve_l_M_noSlots_28_2 K N N (0 : Int32) s t _ hl5 _ _ ?_
      show px_E px_ET px_P 1 35 22 [some (.ref 28), none] [] (px_v K s3 t4) _ _
      refine px_blk (i' := 24) (L' := [some (.ref 28), some (.int (0 : Int32))]) (S' := []) (w' := px_v K s3 t4) (q := []) 2 hM rfl trivial ?_
      rcases px_lp_some h with ⟨i8, vs9, s10, t11, hl12, h⟩ | ⟨z13, hl12, h⟩
      · by_cases hi14 : i8 = 34
        · subst hi14
          rw [if_pos rfl] at h
          have h9 := px_v0_some h
          clear h
          obtain ⟨rfl, h⟩ := h9
          refine ve_l_M_noSlots_28_24 K N N (0 : Int32) s3 t4 _ hl12 _ _ ?_
          show px_E px_ET px_P 1 35 34 [none, none] [] (px_v K s10 t11) _ _
          cases h
          exact px_E_ret hM rfl rfl rfl trivial
        · rw [if_neg hi14] at h
          cases h
      · cases h
        exact ve_l_M_noSlots_28_24 K N N (0 : Int32) s3 t4 _ hl12 _ _ ⟨rfl, rfl⟩
    · rw [if_neg hi7] at h
      cases h
  · cases h
    exact ve_l_M_noSlots_28_2 K N N (0 : Int32) s t _ hl5 _ _ ⟨rfl, rfl⟩
def av_l_M_loadsTree_28_17 (K : px_K) (u1 : Int32) (z : px_LO) (o : Option Value ⊕ Nat) (w2 : px_W) : Prop := match z with
  | .inr (o', s', t') => o = o' ∧ w2 = px_v K s' t'
  | .inl (34, [], s', t') => px_E px_ET px_P 4 102 34 [some (.ref 28), some (.int u1), none, none, none, none, none] [] (px_v K s' t') o w2
  | _ => False
def av_l_M_loadsTree_28_2 (K : px_K) (z : px_LO) (o : Option Value ⊕ Nat) (w2 : px_W) : Prop := match z with
  | .inr (o', s', t') => o = o' ∧ w2 = px_v K s' t'
  | .inl (36, [], s', t') => px_E px_ET px_P 4 102 36 [some (.ref 28), none, none, none, none, none, none] [] (px_v K s' t') o w2
  | _ => False
def av_l_M_loadsTree_28_81 (K : px_K) (u1 : Int32) (u2 : Int32) (u3 : Int32) (u4 : Int32) (u5 : Int32) (z : px_LO) (o : Option Value ⊕ Nat) (w2 : px_W) : Prop := match z with
  | .inr (o', s', t') => o = o' ∧ w2 = px_v K s' t'
  | .inl (108, [], s', t') => px_E px_ET px_P 4 102 108 [some (.ref 28), some (.int u1), some (.int u2), some (.int u3), some (.int u4), none, none] [] (px_v K s' t') o w2
  | _ => False
def av_l_M_loadsTree_28_58 (K : px_K) (u1 : Int32) (u2 : Int32) (z : px_LO) (o : Option Value ⊕ Nat) (w2 : px_W) : Prop := match z with
  | .inr (o', s', t') => o = o' ∧ w2 = px_v K s' t'
  | .inl (115, [], s', t') => px_E px_ET px_P 4 102 115 [some (.ref 28), some (.int u1), some (.int u2), none, none, none, none] [] (px_v K s' t') o w2
  | _ => False
def av_l_M_loadsTree_28_47 (K : px_K) (z : px_LO) (o : Option Value ⊕ Nat) (w2 : px_W) : Prop := match z with
  | .inr (o', s', t') => o = o' ∧ w2 = px_v K s' t'
  | .inl (128, [], s', t') => px_E px_ET px_P 4 102 128 [some (.ref 28), none, none, none, none, none, none] [] (px_v K s' t') o w2
  | _ => False
def av_l_M_loadsTree_28_135 (K : px_K) (u2 : Int32) (z : px_LO) (o : Option Value ⊕ Nat) (w2 : px_W) : Prop := match z with
  | .inr (o', s', t') => o = o' ∧ w2 = px_v K s' t'
  | .inl (161, [], s', t') => px_E px_ET px_P 4 102 161 [some (.ref 28), none, some (.int u2), none, none, none, none] [] (px_v K s' t') o w2
  | _ => False
def av_l_M_loadsTree_28_130 (K : px_K) (z : px_LO) (o : Option Value ⊕ Nat) (w2 : px_W) : Prop := match z with
  | .inr (o', s', t') => o = o' ∧ w2 = px_v K s' t'
  | .inl (163, [], s', t') => px_E px_ET px_P 4 102 163 [none, none, none, none, none, none, none] [] (px_v K s' t') o w2
  | _ => False
set_option maxRecDepth 100000 in
theorem ve_l_M_loadsTree_28_17 (K : px_K) (N : Nat) (u1 : Int32) : ∀ (n : Nat) (m2 : Int32) (s : px_S) (t : px_W) (z : px_LO), l_M_loadsTree_28_17 K N n u1 m2 s t = some z → ∀ (o : Option Value ⊕ Nat) (w2 : px_W), av_l_M_loadsTree_28_17 K u1 z o w2 → px_E px_ET px_P 4 102 17 [some (.ref 28), some (.int u1), some (.int m2), none, none, none, none] [] (px_v K s t) o w2 := by
  have hM : px_P[102]? = some pm_M_loadsTree := rfl
  intro n
  induction n with
  | zero => intro m2 s t z h; cases h
  | succ n ih =>
    intro m2 s t z h o w2 ha
    unfold l_M_loadsTree_28_17 at h
    refine px_blkif (c := (16 : Int32) ≤ m2) (t := 34) (e := 20) (L' := [some (.ref 28), some (.int u1), some (.int m2), none, none, none, none]) (S' := []) (w' := px_v K s t) (q := []) 3 hM rfl trivial (fun hc1 => ?_) (fun hc1 => ?_)
    · rw [if_pos hc1] at h
      cases h
      exact px_E_le (px_leC_L _ _ (by simp [px_leC, px_le1, Value.category])) ha
    · rw [if_neg hc1] at h
      refine px_blk (i' := 30) (L' := [some (.ref 28), some (.int u1), some (.int m2), none, none, none, none]) (S' := [.int m2, .int u1, .ref 28, .int (((16 : Int32) * u1) + m2), .ref 39]) (w' := px_v K s t) (q := []) 10 hM rfl trivial ?_
      rcases px_bi_some h with ⟨v5, s2, t3, hk4, h⟩ | ⟨x6, s2, t3, hk4, h⟩
      · refine px_E_call hM rfl rfl rfl rfl (px_E_mono (by decide) (ve_M_wordThere_28 K N u1 m2 s t _ hk4)) ?_
        obtain ⟨hq7, h⟩ := px_gd_some h
        refine px_blk (i' := 32) (L' := [some (.ref 28), some (.int u1), some (.int m2), none, none, none, none]) (S' := []) (w' := px_v K (sA s2 39 (((16 : Int32) * u1) + m2).toNatClampNeg v5) t3) (q := [vp_in (((16 : Int32) * u1) + m2) (K.2.2 39)]) 1 hM rfl (show vp_in (((16 : Int32) * u1) + m2) (K.2.2 39) from hq7) ?_
        obtain ⟨s8, hs9, h⟩ := px_let_some h
        rw [← hs9]
        refine px_blk (i' := 17) (L' := [some (.ref 28), some (.int u1), some (.int (m2 + (1 : Int32))), none, none, none, none]) (S' := []) (w' := px_v K s8 t3) (q := []) 2 hM rfl trivial ?_
        exact ih (m2 + (1 : Int32)) s8 t3 z h o w2 ha
      · cases h
set_option maxRecDepth 100000 in
theorem ve_l_M_loadsTree_28_2 (K : px_K) (N : Nat) : ∀ (n : Nat) (m1 : Int32) (s : px_S) (t : px_W) (z : px_LO), l_M_loadsTree_28_2 K N n m1 s t = some z → ∀ (o : Option Value ⊕ Nat) (w2 : px_W), av_l_M_loadsTree_28_2 K z o w2 → px_E px_ET px_P 4 102 2 [some (.ref 28), some (.int m1), none, none, none, none, none] [] (px_v K s t) o w2 := by
  have hM : px_P[102]? = some pm_M_loadsTree := rfl
  intro n
  induction n with
  | zero => intro m1 s t z h; cases h
  | succ n ih =>
    intro m1 s t z h o w2 ha
    unfold l_M_loadsTree_28_2 at h
    refine px_blkif (c := (106 : Int32) ≤ m1) (t := 36) (e := 5) (L' := [some (.ref 28), some (.int m1), none, none, none, none, none]) (S' := []) (w' := px_v K s t) (q := []) 3 hM rfl trivial (fun hc1 => ?_) (fun hc1 => ?_)
    · rw [if_pos hc1] at h
      cases h
      exact px_E_le (px_leC_L _ _ (by simp [px_leC, px_le1, Value.category])) ha
    · rw [if_neg hc1] at h
      obtain ⟨hq2, h⟩ := px_gd_some h
      refine px_blk (i' := 10) (L' := [some (.ref 28), some (.int m1), none, none, none, none, none]) (S' := []) (w' := px_v K (sA s 41 m1.toNatClampNeg (0 : Int32)) t) (q := [vp_in m1 (K.2.2 41), (0 : Int32) = 0 ∨ (0 : Int32) = 1]) 5 hM rfl (show (vp_in m1 (K.2.2 41)) ∧ ((0 : Int32) = 0 ∨ (0 : Int32) = 1) from ⟨hq2, Or.inl rfl⟩) ?_
      obtain ⟨s3, hs4, h⟩ := px_let_some h
      rw [← hs4]
      obtain ⟨hq5, h⟩ := px_gd_some h
      refine px_blk (i' := 15) (L' := [some (.ref 28), some (.int m1), none, none, none, none, none]) (S' := []) (w' := px_v K (sA s3 42 m1.toNatClampNeg (0 : Int32)) t) (q := [vp_in m1 (K.2.2 42), (0 : Int32) = 0 ∨ (0 : Int32) = 1]) 5 hM rfl (show (vp_in m1 (K.2.2 42)) ∧ ((0 : Int32) = 0 ∨ (0 : Int32) = 1) from ⟨hq5, Or.inl rfl⟩) ?_
      obtain ⟨s6, hs7, h⟩ := px_let_some h
      rw [← hs7]
      refine px_blk (i' := 17) (L' := [some (.ref 28), some (.int m1), some (.int (0 : Int32)), none, none, none, none]) (S' := []) (w' := px_v K s6 t) (q := []) 2 hM rfl trivial ?_
      rcases px_lp_some h with ⟨i8, vs9, s10, t11, hl12, h⟩ | ⟨z13, hl12, h⟩
      · by_cases hi14 : i8 = 34
        · subst hi14
          rw [if_pos rfl] at h
          have h9 := px_v0_some h
          clear h
          obtain ⟨rfl, h⟩ := h9
          refine ve_l_M_loadsTree_28_17 K N m1 N (0 : Int32) s6 t _ hl12 _ _ ?_
          show px_E px_ET px_P 4 102 34 [some (.ref 28), some (.int m1), none, none, none, none, none] [] (px_v K s10 t11) _ _
          refine px_blk (i' := 2) (L' := [some (.ref 28), some (.int (m1 + (1 : Int32))), none, none, none, none, none]) (S' := []) (w' := px_v K s10 t11) (q := []) 2 hM rfl trivial ?_
          exact ih (m1 + (1 : Int32)) s10 t11 z h o w2 ha
        · rw [if_neg hi14] at h
          cases h
      · cases h
        obtain ⟨rfl, rfl⟩ := ha
        exact ve_l_M_loadsTree_28_17 K N m1 N (0 : Int32) s6 t _ hl12 _ _ ⟨rfl, rfl⟩
set_option maxRecDepth 100000 in
theorem ve_l_M_loadsTree_28_81 (K : px_K) (N : Nat) (u1 : Int32) (u2 : Int32) (u3 : Int32) (u4 : Int32) (u5 : Int32) : ∀ (n : Nat) (m6 : Int32) (s : px_S) (t : px_W) (z : px_LO), l_M_loadsTree_28_81 K N n u1 u2 u3 u4 u5 m6 s t = some z → ∀ (o : Option Value ⊕ Nat) (w2 : px_W), av_l_M_loadsTree_28_81 K u1 u2 u3 u4 u5 z o w2 → px_E px_ET px_P 4 102 81 [some (.ref 28), some (.int u1), some (.int u2), some (.int u3), some (.int u4), some (.int u5), some (.int m6)] [] (px_v K s t) o w2 := by
  have hM : px_P[102]? = some pm_M_loadsTree := rfl
  intro n
  induction n with
  | zero => intro m6 s t z h; cases h
  | succ n ih =>
    intro m6 s t z h o w2 ha
    unfold l_M_loadsTree_28_81 at h
    refine px_blkif (c := (16 : Int32) ≤ m6) (t := 108) (e := 84) (L' := [some (.ref 28), some (.int u1), some (.int u2), some (.int u3), some (.int u4), some (.int u5), some (.int m6)]) (S' := []) (w' := px_v K s t) (q := []) 3 hM rfl trivial (fun hc1 => ?_) (fun hc1 => ?_)
    · rw [if_pos hc1] at h
      cases h
      exact px_E_le (px_leC_L _ _ (by simp [px_leC, px_le1, Value.category])) ha
    · rw [if_neg hc1] at h
      refine px_blkif (c := ¬ m6 = 0) (t := 97) (e := 93) (L' := [some (.ref 28), some (.int u1), some (.int u2), some (.int u3), some (.int u4), some (.int u5), some (.int m6)]) (S' := [.int (((16 : Int32) * u4) + m6), .ref 40]) (w' := px_v K s t) (q := []) 9 hM rfl trivial (fun hc2 => ?_) (fun hc2 => ?_)
      · rw [if_pos hc2] at h
        refine px_blk (i' := 104) (L' := [some (.ref 28), some (.int u1), some (.int u2), some (.int u3), some (.int u4), some (.int u5), some (.int m6)]) (S' := [.int m6, .int ((u1 + (1 : Int32)) + u3), .ref 28, .int (((16 : Int32) * u4) + m6), .ref 40]) (w' := px_v K s t) (q := []) 7 hM rfl trivial ?_
        rcases px_bi_some h with ⟨v6, s3, t4, hk5, h⟩ | ⟨x7, s3, t4, hk5, h⟩
        · refine px_E_call hM rfl rfl rfl rfl (px_E_mono (by decide) (ve_M_word_28 K N ((u1 + (1 : Int32)) + u3) m6 s t _ hk5)) ?_
          obtain ⟨hq8, h⟩ := px_gd_some h
          refine px_blk (i' := 106) (L' := [some (.ref 28), some (.int u1), some (.int u2), some (.int u3), some (.int u4), some (.int u5), some (.int m6)]) (S' := []) (w' := px_v K (sA s3 40 (((16 : Int32) * u4) + m6).toNatClampNeg v6) t4) (q := [vp_in (((16 : Int32) * u4) + m6) (K.2.2 40)]) 1 hM rfl (show vp_in (((16 : Int32) * u4) + m6) (K.2.2 40) from hq8) ?_
          obtain ⟨s9, hs10, h⟩ := px_let_some h
          rw [← hs10]
          refine px_blk (i' := 81) (L' := [some (.ref 28), some (.int u1), some (.int u2), some (.int u3), some (.int u4), some (.int u5), some (.int (m6 + (1 : Int32)))]) (S' := []) (w' := px_v K s9 t4) (q := []) 2 hM rfl trivial ?_
          exact ih (m6 + (1 : Int32)) s9 t4 z h o w2 ha
        · cases h
      · rw [if_neg hc2] at h
        refine px_blkif (c := u5 ≤ 0) (t := 97) (e := 95) (L' := [some (.ref 28), some (.int u1), some (.int u2), some (.int u3), some (.int u4), some (.int u5), some (.int m6)]) (S' := [.int (((16 : Int32) * u4) + m6), .ref 40]) (w' := px_v K s t) (q := []) 2 hM rfl trivial (fun hc11 => ?_) (fun hc11 => ?_)
        · rw [if_pos hc11] at h
          refine px_blk (i' := 104) (L' := [some (.ref 28), some (.int u1), some (.int u2), some (.int u3), some (.int u4), some (.int u5), some (.int m6)]) (S' := [.int m6, .int ((u1 + (1 : Int32)) + u3), .ref 28, .int (((16 : Int32) * u4) + m6), .ref 40]) (w' := px_v K s t) (q := []) 7 hM rfl trivial ?_
          rcases px_bi_some h with ⟨v15, s12, t13, hk14, h⟩ | ⟨x16, s12, t13, hk14, h⟩
          · refine px_E_call hM rfl rfl rfl rfl (px_E_mono (by decide) (ve_M_word_28 K N ((u1 + (1 : Int32)) + u3) m6 s t _ hk14)) ?_
            obtain ⟨hq17, h⟩ := px_gd_some h
            refine px_blk (i' := 106) (L' := [some (.ref 28), some (.int u1), some (.int u2), some (.int u3), some (.int u4), some (.int u5), some (.int m6)]) (S' := []) (w' := px_v K (sA s12 40 (((16 : Int32) * u4) + m6).toNatClampNeg v15) t13) (q := [vp_in (((16 : Int32) * u4) + m6) (K.2.2 40)]) 1 hM rfl (show vp_in (((16 : Int32) * u4) + m6) (K.2.2 40) from hq17) ?_
            obtain ⟨s18, hs19, h⟩ := px_let_some h
            rw [← hs19]
            refine px_blk (i' := 81) (L' := [some (.ref 28), some (.int u1), some (.int u2), some (.int u3), some (.int u4), some (.int u5), some (.int (m6 + (1 : Int32)))]) (S' := []) (w' := px_v K s18 t13) (q := []) 2 hM rfl trivial ?_
            exact ih (m6 + (1 : Int32)) s18 t13 z h o w2 ha
          · cases h
        · rw [if_neg hc11] at h
          obtain ⟨hq20, h⟩ := px_gd_some h
          refine px_blk (i' := 106) (L' := [some (.ref 28), some (.int u1), some (.int u2), some (.int u3), some (.int u4), some (.int u5), some (.int m6)]) (S' := []) (w' := px_v K (sA s 40 (((16 : Int32) * u4) + m6).toNatClampNeg u5) t) (q := [vp_in (((16 : Int32) * u4) + m6) (K.2.2 40)]) 3 hM rfl (show vp_in (((16 : Int32) * u4) + m6) (K.2.2 40) from hq20) ?_
          obtain ⟨s21, hs22, h⟩ := px_let_some h
          rw [← hs22]
          refine px_blk (i' := 81) (L' := [some (.ref 28), some (.int u1), some (.int u2), some (.int u3), some (.int u4), some (.int u5), some (.int (m6 + (1 : Int32)))]) (S' := []) (w' := px_v K s21 t) (q := []) 2 hM rfl trivial ?_
          exact ih (m6 + (1 : Int32)) s21 t z h o w2 ha
set_option maxRecDepth 100000 in
theorem ve_l_M_loadsTree_28_58 (K : px_K) (N : Nat) (u1 : Int32) (u2 : Int32) : ∀ (n : Nat) (m3 : Int32) (s : px_S) (t : px_W) (z : px_LO), l_M_loadsTree_28_58 K N n u1 u2 m3 s t = some z → ∀ (o : Option Value ⊕ Nat) (w2 : px_W), av_l_M_loadsTree_28_58 K u1 u2 z o w2 → px_E px_ET px_P 4 102 58 [some (.ref 28), some (.int u1), some (.int u2), some (.int m3), none, none, none] [] (px_v K s t) o w2 := by
  have hM : px_P[102]? = some pm_M_loadsTree := rfl
  intro n
  induction n with
  | zero => intro m3 s t z h; cases h
  | succ n ih =>
    intro m3 s t z h o w2 ha
    unfold l_M_loadsTree_28_58 at h
    refine px_blkif (c := u2 ≤ m3) (t := 115) (e := 61) (L' := [some (.ref 28), some (.int u1), some (.int u2), some (.int m3), none, none, none]) (S' := []) (w' := px_v K s t) (q := []) 3 hM rfl trivial (fun hc1 => ?_) (fun hc1 => ?_)
    · rw [if_pos hc1] at h
      cases h
      exact px_E_le (px_leC_L _ _ (by simp [px_leC, px_le1, Value.category])) ha
    · rw [if_neg hc1] at h
      refine px_blk (i' := 66) (L' := [some (.ref 28), some (.int u1), some (.int u2), some (.int m3), none, none, none]) (S' := [.int ((3 : Int32) + m3), .int u1, .ref 28]) (w' := px_v K s t) (q := []) 5 hM rfl trivial ?_
      rcases px_bi_some h with ⟨v5, s2, t3, hk4, h⟩ | ⟨x6, s2, t3, hk4, h⟩
      · refine px_E_call hM rfl rfl rfl rfl (px_E_mono (by decide) (ve_M_word_28 K N u1 ((3 : Int32) + m3) s t _ hk4)) ?_
        refine px_blk (i' := 71) (L' := [some (.ref 28), some (.int u1), some (.int u2), some (.int m3), some (.int v5), none, none]) (S' := [.int (15 : Int32), .int u1, .ref 28]) (w' := px_v K s2 t3) (q := []) 4 hM rfl trivial ?_
        rcases px_bi_some h with ⟨v10, s7, t8, hk9, h⟩ | ⟨x11, s7, t8, hk9, h⟩
        · refine px_E_call hM rfl rfl rfl rfl (px_E_mono (by decide) (ve_M_word_28 K N u1 (15 : Int32) s2 t3 _ hk9)) ?_
          refine px_blk (i' := 79) (L' := [some (.ref 28), some (.int u1), some (.int u2), some (.int m3), some (.int v5), some (.int ((v10 >>> (((2 : Int32) * m3) &&& 31)) &&& (3 : Int32))), none]) (S' := []) (w' := px_v K s7 t8) (q := []) 7 hM rfl trivial ?_
          obtain ⟨v12, hv13, h⟩ := px_let_some h
          rw [← hv13]
          refine px_blk (i' := 81) (L' := [some (.ref 28), some (.int u1), some (.int u2), some (.int m3), some (.int v5), some (.int v12), some (.int (0 : Int32))]) (S' := []) (w' := px_v K s7 t8) (q := []) 2 hM rfl trivial ?_
          rcases px_lp_some h with ⟨i14, vs15, s16, t17, hl18, h⟩ | ⟨z19, hl18, h⟩
          · by_cases hi20 : i14 = 108
            · subst hi20
              rw [if_pos rfl] at h
              have h9 := px_v0_some h
              clear h
              obtain ⟨rfl, h⟩ := h9
              refine ve_l_M_loadsTree_28_81 K N u1 u2 m3 v5 v12 N (0 : Int32) s7 t8 _ hl18 _ _ ?_
              show px_E px_ET px_P 4 102 108 [some (.ref 28), some (.int u1), some (.int u2), some (.int m3), some (.int v5), none, none] [] (px_v K s16 t17) _ _
              obtain ⟨hq21, h⟩ := px_gd_some h
              refine px_blk (i' := 113) (L' := [some (.ref 28), some (.int u1), some (.int u2), some (.int m3), some (.int v5), none, none]) (S' := []) (w' := px_v K (sA s16 42 v5.toNatClampNeg (1 : Int32)) t17) (q := [vp_in v5 (K.2.2 42), (1 : Int32) = 0 ∨ (1 : Int32) = 1]) 5 hM rfl (show (vp_in v5 (K.2.2 42)) ∧ ((1 : Int32) = 0 ∨ (1 : Int32) = 1) from ⟨hq21, Or.inr rfl⟩) ?_
              obtain ⟨s22, hs23, h⟩ := px_let_some h
              rw [← hs23]
              refine px_blk (i' := 58) (L' := [some (.ref 28), some (.int u1), some (.int u2), some (.int (m3 + (1 : Int32))), some (.int v5), none, none]) (S' := []) (w' := px_v K s22 t17) (q := []) 2 hM rfl trivial ?_
              exact px_E_le (px_leC_L _ _ (by simp [px_leC, px_le1, Value.category])) (ih (m3 + (1 : Int32)) s22 t17 z h o w2 ha)
            · rw [if_neg hi20] at h
              cases h
          · cases h
            obtain ⟨rfl, rfl⟩ := ha
            exact ve_l_M_loadsTree_28_81 K N u1 u2 m3 v5 v12 N (0 : Int32) s7 t8 _ hl18 _ _ ⟨rfl, rfl⟩
        · cases h
      · cases h
set_option maxRecDepth 100000 in
theorem ve_l_M_loadsTree_28_47 (K : px_K) (N : Nat) : ∀ (n : Nat) (m1 : Int32) (s : px_S) (t : px_W) (z : px_LO), l_M_loadsTree_28_47 K N n m1 s t = some z → ∀ (o : Option Value ⊕ Nat) (w2 : px_W), av_l_M_loadsTree_28_47 K z o w2 → px_E px_ET px_P 4 102 47 [some (.ref 28), some (.int m1), none, none, none, none, none] [] (px_v K s t) o w2 := by
  have hM : px_P[102]? = some pm_M_loadsTree := rfl
  intro n
  induction n with
  | zero => intro m1 s t z h; cases h
  | succ n ih =>
    intro m1 s t z h o w2 ha
    unfold l_M_loadsTree_28_47 at h
    refine px_blk (i' := 49) (L' := [some (.ref 28), some (.int m1), none, none, none, none, none]) (S' := [.int m1, .ref 28]) (w' := px_v K s t) (q := []) 2 hM rfl trivial ?_
    rcases px_bi_some h with ⟨v4, s1, t2, hk3, h⟩ | ⟨x5, s1, t2, hk3, h⟩
    · refine px_E_call hM rfl rfl rfl rfl (px_E_mono (by decide) (ve_M_isCommit_28 K N m1 s t _ hk3)) ?_
      refine px_blkif (c := v4 = 0) (t := 128) (e := 51) (L' := [some (.ref 28), some (.int m1), none, none, none, none, none]) (S' := []) (w' := px_v K s1 t2) (q := []) 1 hM rfl trivial (fun hc6 => ?_) (fun hc6 => ?_)
      · rw [if_pos hc6] at h
        cases h
        exact px_E_le (px_leC_L _ _ (by simp [px_leC, px_le1, Value.category])) ha
      · rw [if_neg hc6] at h
        refine px_blk (i' := 54) (L' := [some (.ref 28), some (.int m1), none, none, none, none, none]) (S' := [.int (2 : Int32), .int m1, .ref 28]) (w' := px_v K s1 t2) (q := []) 3 hM rfl trivial ?_
        rcases px_bi_some h with ⟨v10, s7, t8, hk9, h⟩ | ⟨x11, s7, t8, hk9, h⟩
        · refine px_E_call hM rfl rfl rfl rfl (px_E_mono (by decide) (ve_M_word_28 K N m1 (2 : Int32) s1 t2 _ hk9)) ?_
          refine px_blk (i' := 58) (L' := [some (.ref 28), some (.int m1), some (.int v10), some (.int (0 : Int32)), none, none, none]) (S' := []) (w' := px_v K s7 t8) (q := []) 3 hM rfl trivial ?_
          rcases px_lp_some h with ⟨i12, vs13, s14, t15, hl16, h⟩ | ⟨z17, hl16, h⟩
          · by_cases hi18 : i12 = 115
            · subst hi18
              rw [if_pos rfl] at h
              have h9 := px_v0_some h
              clear h
              obtain ⟨rfl, h⟩ := h9
              refine ve_l_M_loadsTree_28_58 K N m1 v10 N (0 : Int32) s7 t8 _ hl16 _ _ ?_
              show px_E px_ET px_P 4 102 115 [some (.ref 28), some (.int m1), some (.int v10), none, none, none, none] [] (px_v K s14 t15) _ _
              refine px_blk (i' := 121) (L' := [some (.ref 28), some (.int (m1 + (v10 + (2 : Int32)))), some (.int v10), none, none, none, none]) (S' := []) (w' := px_v K s14 t15) (q := []) 6 hM rfl trivial ?_
              obtain ⟨v19, hv20, h⟩ := px_let_some h
              rw [← hv20]
              refine px_blk (i' := 127) (L' := [some (.ref 28), some (.int v19), some (.int v10), none, none, none, none]) (S' := []) (w' := px_v K (sR s14 36 ((s14.1 36) + (1 : Int32))) t15) (q := []) 6 hM rfl trivial ?_
              obtain ⟨s21, hs22, h⟩ := px_let_some h
              rw [← hs22]
              refine px_blk (i' := 47) (L' := [some (.ref 28), some (.int v19), some (.int v10), none, none, none, none]) (S' := []) (w' := px_v K s21 t15) (q := []) 1 hM rfl trivial ?_
              exact px_E_le (px_leC_L _ _ (by simp [px_leC, px_le1, Value.category])) (ih v19 s21 t15 z h o w2 ha)
            · rw [if_neg hi18] at h
              cases h
          · cases h
            obtain ⟨rfl, rfl⟩ := ha
            exact ve_l_M_loadsTree_28_58 K N m1 v10 N (0 : Int32) s7 t8 _ hl16 _ _ ⟨rfl, rfl⟩
        · cases h
    · cases h
set_option maxRecDepth 100000 in
theorem ve_l_M_loadsTree_28_135 (K : px_K) (N : Nat) (u2 : Int32) : ∀ (n : Nat) (m3 : Int32) (s : px_S) (t : px_W) (z : px_LO), l_M_loadsTree_28_135 K N n u2 m3 s t = some z → ∀ (o : Option Value ⊕ Nat) (w2 : px_W), av_l_M_loadsTree_28_135 K u2 z o w2 → px_E px_ET px_P 4 102 135 [some (.ref 28), none, some (.int u2), some (.int m3), none, none, none] [] (px_v K s t) o w2 := by
  have hM : px_P[102]? = some pm_M_loadsTree := rfl
  intro n
  induction n with
  | zero => intro m3 s t z h; cases h
  | succ n ih =>
    intro m3 s t z h o w2 ha
    unfold l_M_loadsTree_28_135 at h
    refine px_blkif (c := (16 : Int32) ≤ m3) (t := 161) (e := 138) (L' := [some (.ref 28), none, some (.int u2), some (.int m3), none, none, none]) (S' := []) (w' := px_v K s t) (q := []) 3 hM rfl trivial (fun hc1 => ?_) (fun hc1 => ?_)
    · rw [if_pos hc1] at h
      cases h
      exact px_E_le (px_leC_L _ _ (by simp [px_leC, px_le1, Value.category])) ha
    · rw [if_neg hc1] at h
      obtain ⟨hq2, h⟩ := px_gd_some h
      refine px_blkif (c := ((s.2.2.1 42) u2.toNatClampNeg) = 0) (t := 161) (e := 143) (L' := [some (.ref 28), none, some (.int u2), some (.int m3), none, none, none]) (S' := []) (w' := px_v K s t) (q := [vp_in u2 (K.2.2 42)]) 5 hM rfl (show vp_in u2 (K.2.2 42) from hq2) (fun hc3 => ?_) (fun hc3 => ?_)
      · rw [if_pos hc3] at h
        cases h
        exact px_E_le (px_leC_L _ _ (by simp [px_leC, px_le1, Value.category])) ha
      · rw [if_neg hc3] at h
        refine px_blk (i' := 155) (L' := [some (.ref 28), none, some (.int u2), some (.int m3), none, none, none]) (S' := [.int ((16 : Int32) * u2), .ref 40, .int (((16 : Int32) * u2) + m3), .ref 39]) (w' := px_v K s t) (q := []) 12 hM rfl trivial ?_
        obtain ⟨⟨hq4, hq5⟩, h⟩ := px_gd_some h
        refine px_blk (i' := 159) (L' := [some (.ref 28), none, some (.int u2), some (.int m3), none, none, none]) (S' := []) (w' := px_v K (sA s 39 (((16 : Int32) * u2) + m3).toNatClampNeg ((s.2.2.1 40) (((16 : Int32) * u2) + m3).toNatClampNeg)) t) (q := [vp_in (((16 : Int32) * u2) + m3) (K.2.2 40), vp_in (((16 : Int32) * u2) + m3) (K.2.2 39)]) 4 hM rfl (show (vp_in (((16 : Int32) * u2) + m3) (K.2.2 40)) ∧ (vp_in (((16 : Int32) * u2) + m3) (K.2.2 39)) from ⟨hq4, hq5⟩) ?_
        obtain ⟨s6, hs7, h⟩ := px_let_some h
        rw [← hs7]
        refine px_blk (i' := 135) (L' := [some (.ref 28), none, some (.int u2), some (.int (m3 + (1 : Int32))), none, none, none]) (S' := []) (w' := px_v K s6 t) (q := []) 2 hM rfl trivial ?_
        exact ih (m3 + (1 : Int32)) s6 t z h o w2 ha
set_option maxRecDepth 100000 in
theorem ve_l_M_loadsTree_28_130 (K : px_K) (N : Nat) : ∀ (n : Nat) (m2 : Int32) (s : px_S) (t : px_W) (z : px_LO), l_M_loadsTree_28_130 K N n m2 s t = some z → ∀ (o : Option Value ⊕ Nat) (w2 : px_W), av_l_M_loadsTree_28_130 K z o w2 → px_E px_ET px_P 4 102 130 [some (.ref 28), none, some (.int m2), none, none, none, none] [] (px_v K s t) o w2 := by
  have hM : px_P[102]? = some pm_M_loadsTree := rfl
  intro n
  induction n with
  | zero => intro m2 s t z h; cases h
  | succ n ih =>
    intro m2 s t z h o w2 ha
    unfold l_M_loadsTree_28_130 at h
    refine px_blkif (c := (106 : Int32) ≤ m2) (t := 163) (e := 133) (L' := [some (.ref 28), none, some (.int m2), none, none, none, none]) (S' := []) (w' := px_v K s t) (q := []) 3 hM rfl trivial (fun hc1 => ?_) (fun hc1 => ?_)
    · rw [if_pos hc1] at h
      cases h
      exact px_E_le (px_leC_L _ _ (by simp [px_leC, px_le1, Value.category])) ha
    · rw [if_neg hc1] at h
      refine px_blk (i' := 135) (L' := [some (.ref 28), none, some (.int m2), some (.int (0 : Int32)), none, none, none]) (S' := []) (w' := px_v K s t) (q := []) 2 hM rfl trivial ?_
      rcases px_lp_some h with ⟨i2, vs3, s4, t5, hl6, h⟩ | ⟨z7, hl6, h⟩
      · by_cases hi8 : i2 = 161
        · subst hi8
          rw [if_pos rfl] at h
          have h9 := px_v0_some h
          clear h
          obtain ⟨rfl, h⟩ := h9
          refine ve_l_M_loadsTree_28_135 K N m2 N (0 : Int32) s t _ hl6 _ _ ?_
          show px_E px_ET px_P 4 102 161 [some (.ref 28), none, some (.int m2), none, none, none, none] [] (px_v K s4 t5) _ _
          refine px_blk (i' := 130) (L' := [some (.ref 28), none, some (.int (m2 + (1 : Int32))), none, none, none, none]) (S' := []) (w' := px_v K s4 t5) (q := []) 2 hM rfl trivial ?_
          exact ih (m2 + (1 : Int32)) s4 t5 z h o w2 ha
        · rw [if_neg hi8] at h
          cases h
      · cases h
        obtain ⟨rfl, rfl⟩ := ha
        exact ve_l_M_loadsTree_28_135 K N m2 N (0 : Int32) s t _ hl6 _ _ ⟨rfl, rfl⟩
set_option maxRecDepth 100000 in
theorem ve_M_loadsTree_28 (K : px_K) (N : Nat) (s : px_S) (t : px_W) (r : px_Res) (h : f_M_loadsTree_28 K N s t = some r) : px_E px_ET px_P 4 102 0 (px_ent 7 [.ref 28]) [] (px_v K s t) r.1 (px_v K r.2.1 r.2.2) := by
  have hM : px_P[102]? = some pm_M_loadsTree := rfl
  unfold f_M_loadsTree_28 at h
  refine px_blk (i' := 2) (L' := [some (.ref 28), some (.int (0 : Int32)), none, none, none, none, none]) (S' := []) (w' := px_v K s t) (q := []) 2 hM rfl trivial ?_
  rcases px_lp_some h with ⟨i1, vs2, s3, t4, hl5, h⟩ | ⟨z6, hl5, h⟩
  · by_cases hi7 : i1 = 36
    · subst hi7
      rw [if_pos rfl] at h
      have h9 := px_v0_some h
      clear h
      obtain ⟨rfl, h⟩ := h9
      refine ve_l_M_loadsTree_28_2 K N N (0 : Int32) s t _ hl5 _ _ ?_
      show px_E px_ET px_P 4 102 36 [some (.ref 28), none, none, none, none, none, none] [] (px_v K s3 t4) _ _
      refine px_blk (i' := 40) (L' := [some (.ref 28), none, none, none, none, none, none]) (S' := [.int (0 : Int32), .int (0 : Int32), .ref 28, .ref 28]) (w' := px_v K s3 t4) (q := []) 4 hM rfl trivial ?_
      rcases px_bi_some h with ⟨v11, s8, t9, hk10, h⟩ | ⟨x12, s8, t9, hk10, h⟩
      · refine px_E_call hM rfl rfl rfl rfl (px_E_mono (by decide) (ve_M_word_28 K N (0 : Int32) (0 : Int32) s3 t4 _ hk10)) ?_
        refine px_blk (i' := 42) (L' := [some (.ref 28), none, none, none, none, none, none]) (S' := []) (w' := px_v K (sR s8 36 v11) t9) (q := []) 1 hM rfl trivial ?_
        obtain ⟨s13, hs14, h⟩ := px_let_some h
        rw [← hs14]
        refine px_blk (i' := 45) (L' := [some (.ref 28), none, none, none, none, none, none]) (S' := []) (w' := px_v K (sR s13 37 (1 : Int32)) t9) (q := []) 3 hM rfl trivial ?_
        obtain ⟨s15, hs16, h⟩ := px_let_some h
        rw [← hs16]
        refine px_blk (i' := 47) (L' := [some (.ref 28), some (.int (1 : Int32)), none, none, none, none, none]) (S' := []) (w' := px_v K s15 t9) (q := []) 2 hM rfl trivial ?_
        rcases px_lp_some h with ⟨i17, vs18, s19, t20, hl21, h⟩ | ⟨z22, hl21, h⟩
        · by_cases hi23 : i17 = 128
          · subst hi23
            rw [if_pos rfl] at h
            have h9 := px_v0_some h
            clear h
            obtain ⟨rfl, h⟩ := h9
            refine ve_l_M_loadsTree_28_47 K N N (1 : Int32) s15 t9 _ hl21 _ _ ?_
            show px_E px_ET px_P 4 102 128 [some (.ref 28), none, none, none, none, none, none] [] (px_v K s19 t20) _ _
            refine px_blk (i' := 130) (L' := [some (.ref 28), none, some (.int (0 : Int32)), none, none, none, none]) (S' := []) (w' := px_v K s19 t20) (q := []) 2 hM rfl trivial ?_
            rcases px_lp_some h with ⟨i24, vs25, s26, t27, hl28, h⟩ | ⟨z29, hl28, h⟩
            · by_cases hi30 : i24 = 163
              · subst hi30
                rw [if_pos rfl] at h
                have h9 := px_v0_some h
                clear h
                obtain ⟨rfl, h⟩ := h9
                refine ve_l_M_loadsTree_28_130 K N N (0 : Int32) s19 t20 _ hl28 _ _ ?_
                show px_E px_ET px_P 4 102 163 [none, none, none, none, none, none, none] [] (px_v K s26 t27) _ _
                cases h
                exact px_E_ret hM rfl rfl rfl trivial
              · rw [if_neg hi30] at h
                cases h
            · cases h
              exact ve_l_M_loadsTree_28_130 K N N (0 : Int32) s19 t20 _ hl28 _ _ ⟨rfl, rfl⟩
          · rw [if_neg hi23] at h
            cases h
        · cases h
          exact ve_l_M_loadsTree_28_47 K N N (1 : Int32) s15 t9 _ hl21 _ _ ⟨rfl, rfl⟩
      · cases h
    · rw [if_neg hi7] at h
      cases h
  · cases h
    exact ve_l_M_loadsTree_28_2 K N N (0 : Int32) s t _ hl5 _ _ ⟨rfl, rfl⟩
noncomputable def f_M_init (K : px_K) (N : Nat) (a0 a1 a2 : Int32) (s : px_S) (t : px_W) : Option px_Res :=
  (px_let (sR s 26 (if (1 : Int32) ≤ a0 then (if a0 ≤ (8 : Int32) then a0 else (8 : Int32)) else (1 : Int32))) (fun s1 => (px_let (sR s1 27 (if (2 : Int32) ≤ a1 then (if a1 ≤ (8 : Int32) then a1 else (8 : Int32)) else (2 : Int32))) (fun s3 => (px_let (sR s3 28 (if (1 : Int32) ≤ a2 then (if a2 ≤ (8 : Int32) then a2 else (8 : Int32)) else (1 : Int32))) (fun s5 => (px_gd (vp_in (0 : Int32) (K.2.2 29)) (px_let (sA s5 29 (0 : Int32).toNatClampNeg (1 : Int32)) (fun s8 => (px_gd (vp_in (304 : Int32) (K.2.2 29)) (px_let (sA s8 29 (304 : Int32).toNatClampNeg (1 : Int32)) (fun s11 => (px_gd (vp_in (784 : Int32) (K.2.2 29)) (px_let (sA s11 29 (784 : Int32).toNatClampNeg (1 : Int32)) (fun s14 => (px_gd (vp_in (2000 : Int32) (K.2.2 29)) (px_let (sA s14 29 (2000 : Int32).toNatClampNeg (1 : Int32)) (fun s17 => (px_gd (vp_in (2001 : Int32) (K.2.2 29)) (px_let (sA s17 29 (2001 : Int32).toNatClampNeg (1 : Int32)) (fun s20 => (px_let (sR s20 29 (1 : Int32)) (fun s22 => (px_let (sR s22 31 (1 : Int32)) (fun s24 => (px_bv (f_M_noSlots_28 K N s24 t) (fun s26 t27 => (px_let (sR s26 34 (1 : Int32)) (fun s31 => (px_let (sR s31 32 (1 : Int32)) (fun s33 => (px_bv (f_M_loadsTree_28 K N s33 t27) (fun s35 t36 => (some (.inl none, s35, t36))) (fun x39 s35 t36 => none))))))) (fun x30 s26 t27 => none)))))))))))))))))))))))))))
set_option maxRecDepth 100000 in
theorem ve_M_init (K : px_K) (N : Nat) (a0 a1 a2 : Int32) (s : px_S) (t : px_W) (r : px_Res) (h : f_M_init K N a0 a1 a2 s t = some r) : px_E px_ET px_P 5 23 70 [some (.ref 28), some (.int a0), some (.int a1), some (.int a2)] [] (px_v K s t) r.1 (px_v K r.2.1 r.2.2) := by
  have hM : px_P[23]? = some pm_M_init := rfl
  unfold f_M_init at h
  refine px_blk (i' := 73) (L' := [some (.ref 28), some (.int a0), some (.int a1), some (.int a2)]) (S' := [.int (1 : Int32), .int a0, .ref 28]) (w' := px_v K s t) (q := []) 3 hM rfl trivial ?_
  have hK : px_E px_ET px_P 5 23 82 [some (.ref 28), some (.int a0), some (.int a1), some (.int a2)] [.int (if (1 : Int32) ≤ a0 then (if a0 ≤ (8 : Int32) then a0 else (8 : Int32)) else (1 : Int32)), .ref 28] (px_v K s t) r.1 (px_v K r.2.1 r.2.2) := by
    refine px_blk (i' := 83) (L' := [some (.ref 28), some (.int a0), some (.int a1), some (.int a2)]) (S' := []) (w' := px_v K (sR s 26 (if (1 : Int32) ≤ a0 then (if a0 ≤ (8 : Int32) then a0 else (8 : Int32)) else (1 : Int32))) t) (q := []) 1 hM rfl trivial ?_
    obtain ⟨s1, hs2, h⟩ := px_let_some h
    rw [← hs2]
    refine px_blk (i' := 86) (L' := [some (.ref 28), some (.int a0), some (.int a1), some (.int a2)]) (S' := [.int (2 : Int32), .int a1, .ref 28]) (w' := px_v K s1 t) (q := []) 3 hM rfl trivial ?_
    have hK : px_E px_ET px_P 5 23 95 [some (.ref 28), some (.int a0), some (.int a1), some (.int a2)] [.int (if (2 : Int32) ≤ a1 then (if a1 ≤ (8 : Int32) then a1 else (8 : Int32)) else (2 : Int32)), .ref 28] (px_v K s1 t) r.1 (px_v K r.2.1 r.2.2) := by
      refine px_blk (i' := 96) (L' := [some (.ref 28), some (.int a0), some (.int a1), some (.int a2)]) (S' := []) (w' := px_v K (sR s1 27 (if (2 : Int32) ≤ a1 then (if a1 ≤ (8 : Int32) then a1 else (8 : Int32)) else (2 : Int32))) t) (q := []) 1 hM rfl trivial ?_
      obtain ⟨s3, hs4, h⟩ := px_let_some h
      rw [← hs4]
      refine px_blk (i' := 99) (L' := [some (.ref 28), some (.int a0), some (.int a1), some (.int a2)]) (S' := [.int (1 : Int32), .int a2, .ref 28]) (w' := px_v K s3 t) (q := []) 3 hM rfl trivial ?_
      have hK : px_E px_ET px_P 5 23 108 [some (.ref 28), some (.int a0), some (.int a1), some (.int a2)] [.int (if (1 : Int32) ≤ a2 then (if a2 ≤ (8 : Int32) then a2 else (8 : Int32)) else (1 : Int32)), .ref 28] (px_v K s3 t) r.1 (px_v K r.2.1 r.2.2) := by
        refine px_blk (i' := 109) (L' := [some (.ref 28), some (.int a0), some (.int a1), some (.int a2)]) (S' := []) (w' := px_v K (sR s3 28 (if (1 : Int32) ≤ a2 then (if a2 ≤ (8 : Int32) then a2 else (8 : Int32)) else (1 : Int32))) t) (q := []) 1 hM rfl trivial ?_
        obtain ⟨s5, hs6, h⟩ := px_let_some h
        rw [← hs6]
        obtain ⟨hq7, h⟩ := px_gd_some h
        refine px_blk (i' := 114) (L' := [some (.ref 28), some (.int a0), some (.int a1), some (.int a2)]) (S' := []) (w' := px_v K (sA s5 29 (0 : Int32).toNatClampNeg (1 : Int32)) t) (q := [vp_in (0 : Int32) (K.2.2 29)]) 5 hM rfl (show vp_in (0 : Int32) (K.2.2 29) from hq7) ?_
        obtain ⟨s8, hs9, h⟩ := px_let_some h
        rw [← hs9]
        obtain ⟨hq10, h⟩ := px_gd_some h
        refine px_blk (i' := 119) (L' := [some (.ref 28), some (.int a0), some (.int a1), some (.int a2)]) (S' := []) (w' := px_v K (sA s8 29 (304 : Int32).toNatClampNeg (1 : Int32)) t) (q := [vp_in (304 : Int32) (K.2.2 29)]) 5 hM rfl (show vp_in (304 : Int32) (K.2.2 29) from hq10) ?_
        obtain ⟨s11, hs12, h⟩ := px_let_some h
        rw [← hs12]
        obtain ⟨hq13, h⟩ := px_gd_some h
        refine px_blk (i' := 124) (L' := [some (.ref 28), some (.int a0), some (.int a1), some (.int a2)]) (S' := []) (w' := px_v K (sA s11 29 (784 : Int32).toNatClampNeg (1 : Int32)) t) (q := [vp_in (784 : Int32) (K.2.2 29)]) 5 hM rfl (show vp_in (784 : Int32) (K.2.2 29) from hq13) ?_
        obtain ⟨s14, hs15, h⟩ := px_let_some h
        rw [← hs15]
        obtain ⟨hq16, h⟩ := px_gd_some h
        refine px_blk (i' := 129) (L' := [some (.ref 28), some (.int a0), some (.int a1), some (.int a2)]) (S' := []) (w' := px_v K (sA s14 29 (2000 : Int32).toNatClampNeg (1 : Int32)) t) (q := [vp_in (2000 : Int32) (K.2.2 29)]) 5 hM rfl (show vp_in (2000 : Int32) (K.2.2 29) from hq16) ?_
        obtain ⟨s17, hs18, h⟩ := px_let_some h
        rw [← hs18]
        obtain ⟨hq19, h⟩ := px_gd_some h
        refine px_blk (i' := 134) (L' := [some (.ref 28), some (.int a0), some (.int a1), some (.int a2)]) (S' := []) (w' := px_v K (sA s17 29 (2001 : Int32).toNatClampNeg (1 : Int32)) t) (q := [vp_in (2001 : Int32) (K.2.2 29)]) 5 hM rfl (show vp_in (2001 : Int32) (K.2.2 29) from hq19) ?_
        obtain ⟨s20, hs21, h⟩ := px_let_some h
        rw [← hs21]
        refine px_blk (i' := 137) (L' := [some (.ref 28), some (.int a0), some (.int a1), some (.int a2)]) (S' := []) (w' := px_v K (sR s20 29 (1 : Int32)) t) (q := [(1 : Int32) = 0 ∨ (1 : Int32) = 1]) 3 hM rfl (show (1 : Int32) = 0 ∨ (1 : Int32) = 1 from Or.inr rfl) ?_
        obtain ⟨s22, hs23, h⟩ := px_let_some h
        rw [← hs23]
        refine px_blk (i' := 140) (L' := [some (.ref 28), some (.int a0), some (.int a1), some (.int a2)]) (S' := []) (w' := px_v K (sR s22 31 (1 : Int32)) t) (q := [(1 : Int32) = 0 ∨ (1 : Int32) = 1]) 3 hM rfl (show (1 : Int32) = 0 ∨ (1 : Int32) = 1 from Or.inr rfl) ?_
        obtain ⟨s24, hs25, h⟩ := px_let_some h
        rw [← hs25]
        refine px_blk (i' := 141) (L' := [some (.ref 28), some (.int a0), some (.int a1), some (.int a2)]) (S' := [.ref 28]) (w' := px_v K s24 t) (q := []) 1 hM rfl trivial ?_
        rcases px_bv_some h with ⟨s26, t27, hk28, h⟩ | ⟨x30, s26, t27, hk28, h⟩
        · refine px_E_call hM rfl rfl rfl rfl (px_E_mono (by decide) (ve_M_noSlots_28 K N s24 t _ hk28)) ?_
          refine px_blk (i' := 145) (L' := [some (.ref 28), some (.int a0), some (.int a1), some (.int a2)]) (S' := []) (w' := px_v K (sR s26 34 (1 : Int32)) t27) (q := []) 3 hM rfl trivial ?_
          obtain ⟨s31, hs32, h⟩ := px_let_some h
          rw [← hs32]
          refine px_blk (i' := 148) (L' := [some (.ref 28), some (.int a0), some (.int a1), some (.int a2)]) (S' := []) (w' := px_v K (sR s31 32 (1 : Int32)) t27) (q := []) 3 hM rfl trivial ?_
          obtain ⟨s33, hs34, h⟩ := px_let_some h
          rw [← hs34]
          refine px_blk (i' := 149) (L' := [some (.ref 28), some (.int a0), some (.int a1), some (.int a2)]) (S' := [.ref 28]) (w' := px_v K s33 t27) (q := []) 1 hM rfl trivial ?_
          rcases px_bv_some h with ⟨s35, t36, hk37, h⟩ | ⟨x39, s35, t36, hk37, h⟩
          · refine px_E_call hM rfl rfl rfl rfl (px_E_mono (by decide) (ve_M_loadsTree_28 K N s33 t27 _ hk37)) ?_
            cases h
            exact px_E_ret hM rfl rfl rfl trivial
          · cases h
        · cases h
      clear h
      refine px_blkif (c := (1 : Int32) ≤ a2) (t := 102) (e := 100) (L' := [some (.ref 28), some (.int a0), some (.int a1), some (.int a2)]) (S' := [.ref 28]) (w' := px_v K s3 t) (q := []) 1 hM rfl trivial (fun hc40 => ?_) (fun hc40 => ?_)
      · rw [if_pos hc40] at hK
        refine px_blkif (c := a2 ≤ (8 : Int32)) (t := 107) (e := 105) (L' := [some (.ref 28), some (.int a0), some (.int a1), some (.int a2)]) (S' := [.ref 28]) (w' := px_v K s3 t) (q := []) 3 hM rfl trivial (fun hc41 => ?_) (fun hc41 => ?_)
        · rw [if_pos hc41] at hK
          exact px_blk (i' := 108) (L' := [some (.ref 28), some (.int a0), some (.int a1), some (.int a2)]) (S' := [.int a2, .ref 28]) (w' := px_v K s3 t) (q := []) 1 hM rfl trivial hK
        · rw [if_neg hc41] at hK
          exact px_blk (i' := 108) (L' := [some (.ref 28), some (.int a0), some (.int a1), some (.int a2)]) (S' := [.int (8 : Int32), .ref 28]) (w' := px_v K s3 t) (q := []) 2 hM rfl trivial hK
      · rw [if_neg hc40] at hK
        exact px_blk (i' := 108) (L' := [some (.ref 28), some (.int a0), some (.int a1), some (.int a2)]) (S' := [.int (1 : Int32), .ref 28]) (w' := px_v K s3 t) (q := []) 2 hM rfl trivial hK
    clear h
    refine px_blkif (c := (2 : Int32) ≤ a1) (t := 89) (e := 87) (L' := [some (.ref 28), some (.int a0), some (.int a1), some (.int a2)]) (S' := [.ref 28]) (w' := px_v K s1 t) (q := []) 1 hM rfl trivial (fun hc42 => ?_) (fun hc42 => ?_)
    · rw [if_pos hc42] at hK
      refine px_blkif (c := a1 ≤ (8 : Int32)) (t := 94) (e := 92) (L' := [some (.ref 28), some (.int a0), some (.int a1), some (.int a2)]) (S' := [.ref 28]) (w' := px_v K s1 t) (q := []) 3 hM rfl trivial (fun hc43 => ?_) (fun hc43 => ?_)
      · rw [if_pos hc43] at hK
        exact px_blk (i' := 95) (L' := [some (.ref 28), some (.int a0), some (.int a1), some (.int a2)]) (S' := [.int a1, .ref 28]) (w' := px_v K s1 t) (q := []) 1 hM rfl trivial hK
      · rw [if_neg hc43] at hK
        exact px_blk (i' := 95) (L' := [some (.ref 28), some (.int a0), some (.int a1), some (.int a2)]) (S' := [.int (8 : Int32), .ref 28]) (w' := px_v K s1 t) (q := []) 2 hM rfl trivial hK
    · rw [if_neg hc42] at hK
      exact px_blk (i' := 95) (L' := [some (.ref 28), some (.int a0), some (.int a1), some (.int a2)]) (S' := [.int (2 : Int32), .ref 28]) (w' := px_v K s1 t) (q := []) 2 hM rfl trivial hK
  clear h
  refine px_blkif (c := (1 : Int32) ≤ a0) (t := 76) (e := 74) (L' := [some (.ref 28), some (.int a0), some (.int a1), some (.int a2)]) (S' := [.ref 28]) (w' := px_v K s t) (q := []) 1 hM rfl trivial (fun hc44 => ?_) (fun hc44 => ?_)
  · rw [if_pos hc44] at hK
    refine px_blkif (c := a0 ≤ (8 : Int32)) (t := 81) (e := 79) (L' := [some (.ref 28), some (.int a0), some (.int a1), some (.int a2)]) (S' := [.ref 28]) (w' := px_v K s t) (q := []) 3 hM rfl trivial (fun hc45 => ?_) (fun hc45 => ?_)
    · rw [if_pos hc45] at hK
      exact px_blk (i' := 82) (L' := [some (.ref 28), some (.int a0), some (.int a1), some (.int a2)]) (S' := [.int a0, .ref 28]) (w' := px_v K s t) (q := []) 1 hM rfl trivial hK
    · rw [if_neg hc45] at hK
      exact px_blk (i' := 82) (L' := [some (.ref 28), some (.int a0), some (.int a1), some (.int a2)]) (S' := [.int (8 : Int32), .ref 28]) (w' := px_v K s t) (q := []) 2 hM rfl trivial hK
  · rw [if_neg hc44] at hK
    exact px_blk (i' := 82) (L' := [some (.ref 28), some (.int a0), some (.int a1), some (.int a2)]) (S' := [.int (1 : Int32), .ref 28]) (w' := px_v K s t) (q := []) 2 hM rfl trivial hK
